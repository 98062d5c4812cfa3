theorem tb_X10_letter_67 {X : mX} {n z : Nat} {G : mG} {r0 : Nat} (hr0 : is10 G r0) {x1 x2 x3 x4 x6 x7 : Int} {V V' : mV} {q : Nat × Int × Int} {Q : Nat → Nat → mG → mV → Option Value → Prop} (h0 : q.1 = 0 → T X (1) 218 67 [some (.ref r0), some (.int (iI x1)), some (.int (iI x2)), some (.int (iI x3)), some (.long (lI x4)), none, some (.int (iI q.2.1)), some (.long (lI q.2.2)), none] [] n z G V' Q) (h1 : q.1 = 1 → T X (1) 218 88 [some (.ref r0), some (.int (iI x1)), some (.int (iI x2)), some (.int (iI x3)), some (.long (lI x4)), none, some (.int (iI q.2.1)), some (.long (lI q.2.2)), none] [] n z G V' Q) (h : B_X10_letter_67 G r0 x1 x2 x3 x4 x6 x7 V = some (V', q)) : T X (1) 218 67 [some (.ref r0), some (.int (iI x1)), some (.int (iI x2)), some (.int (iI x3)), some (.long (lI x4)), none, some (.int (iI x6)), some (.long (lI x7)), none] [] n z G V Q := by
  unfold B_X10_letter_67 at h
  refine t_l fX10_letter_67 rfl rfl rfl rfl ?_
  refine t_s fX10_letter_69 rfl rfl rfl ?_
  obtain ⟨g23, h⟩ := gd_some h
  refine k9_lcmp fX10_letter_70 g23 ⟨by decide, by decide⟩ ?_
  refine k9_if_le fX10_letter_71 rfl (cmp_rg _ _) (fun c24 => ?_) (fun c24 => ?_)
  · replace h := ite_t (cmp_le.mp c24) h
    cases h
    exact h1 rfl
  · replace h := ite_f (fun q => c24 (cmp_le.mpr q)) h
    replace h := lt_some h
    refine k9_iinc fX10_letter_74 rfl (Nat.le_of_ble_eq_true rfl) rfl ?_
    refine t_l fX10_letter_77 rfl rfl rfl rfl ?_
    refine t_s fX10_letter_79 rfl rfl rfl ?_
    refine k9_ldiv fX10_letter_82 g23 ⟨by decide, by decide⟩ (by decide) ?_
    replace h := lt_some h
    refine t_l fX10_letter_83 rfl rfl rfl rfl ?_
    refine k9_goto fX10_letter_85 rfl ?_
    cases h
    exact h0 rfl

theorem tl_X10_letter_67 {X : mX} {n z : Nat} {G : mG} {r0 : Nat} (hr0 : is10 G r0) {x1 x2 x3 x4 x6 x7 : Int} {V V' : mV} {fu : Nat} {q : Nat × Int × Int} {Q : Nat → Nat → mG → mV → Option Value → Prop} (k1 : q.1 = 1 → T X (1) 218 88 [some (.ref r0), some (.int (iI x1)), some (.int (iI x2)), some (.int (iI x3)), some (.long (lI x4)), none, some (.int (iI q.2.1)), some (.long (lI q.2.2)), none] [] n z G V' Q) (h : lp (fun (s : Int × Int) V => B_X10_letter_67 G r0 x1 x2 x3 x4 s.1 s.2 V) fu (x6, x7) V = some (V', q)) : T X (1) 218 67 [some (.ref r0), some (.int (iI x1)), some (.int (iI x2)), some (.int (iI x3)), some (.long (lI x4)), none, some (.int (iI x6)), some (.long (lI x7)), none] [] n z G V Q :=
  lp_go (P0 := fun s V => T X (1) 218 67 [some (.ref r0), some (.int (iI x1)), some (.int (iI x2)), some (.int (iI x3)), some (.long (lI x4)), none, some (.int (iI s.1)), some (.long (lI s.2)), none] [] n z G V Q) (PE := fun t s V => (t = 1 → T X (1) 218 88 [some (.ref r0), some (.int (iI x1)), some (.int (iI x2)), some (.int (iI x3)), some (.long (lI x4)), none, some (.int (iI s.1)), some (.long (lI s.2)), none] [] n z G V Q)) (fun s V V' q hb h0 h1 => tb_X10_letter_67 hr0  h0 (fun e => (h1 (by omega)) e) hb) fu (x6, x7) V V' q h k1

theorem tb_X10_letter_102 {X : mX} {n z : Nat} {G : mG} {r0 : Nat} (hr0 : is10 G r0) {x1 x2 x3 x4 x7 : Int} {j6 j8 : Option Value} {V V' : mV} {q : Nat × Int × Int} {Q : Nat → Nat → mG → mV → Option Value → Prop} (h0 : q.1 = 0 → ∀ j6 j8 : Option Value, T X (1) 218 102 [some (.ref r0), some (.int (iI x1)), some (.int (iI x2)), some (.int (iI x3)), some (.long (lI q.2.1)), none, j6, some (.int (iI q.2.2)), j8] [] n z G V' Q) (h1 : q.1 = 1 → ∀ j6 j8 : Option Value, T X (1) 218 122 [some (.ref r0), some (.int (iI x1)), some (.int (iI x2)), some (.int (iI x3)), some (.long (lI q.2.1)), none, j6, some (.int (iI q.2.2)), j8] [] n z G V' Q) (h : B_X10_letter_102 G r0 x1 x2 x3 x4 x7 V = some (V', q)) : T X (1) 218 102 [some (.ref r0), some (.int (iI x1)), some (.int (iI x2)), some (.int (iI x3)), some (.long (lI x4)), none, j6, some (.int (iI x7)), j8] [] n z G V Q := by
  unfold B_X10_letter_102 at h
  refine t_l fX10_letter_102 rfl rfl rfl rfl ?_
  refine t_l fX10_letter_104 rfl rfl rfl rfl ?_
  obtain ⟨g35, h⟩ := gd_some h
  obtain ⟨g36, h⟩ := gd_some h
  refine k9_ic_le fX10_letter_105 rfl g35 g36 (fun c34 => ?_) (fun c34 => ?_)
  · replace h := ite_t (c34) h
    cases h
    exact h1 rfl _ _
  · replace h := ite_f (c34) h
    refine t_l fX10_letter_108 rfl rfl rfl rfl ?_
    refine t_s fX10_letter_110 rfl rfl rfl ?_
    obtain ⟨g37, h⟩ := gd_some h
    refine k9_ldiv fX10_letter_113 g37 ⟨by decide, by decide⟩ (by decide) ?_
    replace h := lt_some h
    refine t_l fX10_letter_114 rfl rfl rfl rfl ?_
    replace h := lt_some h
    refine k9_iinc fX10_letter_116 rfl (Nat.le_of_ble_eq_true rfl) rfl ?_
    refine k9_goto fX10_letter_119 rfl ?_
    cases h
    exact h0 rfl _ _

theorem tl_X10_letter_102 {X : mX} {n z : Nat} {G : mG} {r0 : Nat} (hr0 : is10 G r0) {x1 x2 x3 x4 x7 : Int} {j6 j8 : Option Value} {V V' : mV} {fu : Nat} {q : Nat × Int × Int} {Q : Nat → Nat → mG → mV → Option Value → Prop} (k1 : q.1 = 1 → ∀ j6 j8 : Option Value, T X (1) 218 122 [some (.ref r0), some (.int (iI x1)), some (.int (iI x2)), some (.int (iI x3)), some (.long (lI q.2.1)), none, j6, some (.int (iI q.2.2)), j8] [] n z G V' Q) (h : lp (fun (s : Int × Int) V => B_X10_letter_102 G r0 x1 x2 x3 s.1 s.2 V) fu (x4, x7) V = some (V', q)) : T X (1) 218 102 [some (.ref r0), some (.int (iI x1)), some (.int (iI x2)), some (.int (iI x3)), some (.long (lI x4)), none, j6, some (.int (iI x7)), j8] [] n z G V Q :=
  lp_go (P0 := fun s V => ∀ j6 j8 : Option Value, T X (1) 218 102 [some (.ref r0), some (.int (iI x1)), some (.int (iI x2)), some (.int (iI x3)), some (.long (lI s.1)), none, j6, some (.int (iI s.2)), j8] [] n z G V Q) (PE := fun t s V => (t = 1 → ∀ j6 j8 : Option Value, T X (1) 218 122 [some (.ref r0), some (.int (iI x1)), some (.int (iI x2)), some (.int (iI x3)), some (.long (lI s.1)), none, j6, some (.int (iI s.2)), j8] [] n z G V Q)) (fun s V V' q hb h0 h1 => fun _ _ => tb_X10_letter_102 hr0  h0 (fun e => (h1 (by omega)) e) hb) fu (x4, x7) V V' q h k1 _ _

theorem q_X10_letter {X : mX} {n z : Nat} {G : mG} {r0 : Nat} (hr0 : is10 G r0) {x1 x2 x3 : Int} {V V' : mV} {v : Int} (h : F_X10_letter G r0 x1 x2 x3 V = some (V', v)) : Rn X (1) 218 [.ref r0, .int (iI x1), .int (iI x2), .int (iI x3)] n z G V n z G V' (some (.int (iI v))) := by
  refine qi_toR (v := v) (L := [some (.ref r0), some (.int (iI x1)), some (.int (iI x2)), some (.int (iI x3)), none, none, none, none, none]) rfl ?_
  unfold F_X10_letter at h
  refine t_l fX10_letter_0 rfl rfl rfl rfl ?_
  obtain ⟨g1, h⟩ := gd_some h
  refine k9_i2l fX10_letter_1 g1 ?_
  refine t_s fX10_letter_2 rfl rfl rfl ?_
  refine t_s fX10_letter_3 rfl rfl rfl ?_
  obtain ⟨V2, v3, e4, h⟩ := bd_some h
  refine kcX10_isIn fX10_letter_4 rfl (q_X10_isIn  e4) (by decide) ?_
  obtain ⟨g6, h⟩ := gd_some h
  refine k9_if_eq fX10_letter_7 rfl g6 (fun c5 => ?_) (fun c5 => ?_)
  · replace h := ite_t (c5) h
    refine t_s fX10_letter_42 rfl rfl rfl ?_
    refine t_ret fX10_letter_43 rX10_letter ?_
    exact qf_i h
  · replace h := ite_f (c5) h
    refine t_l fX10_letter_10 rfl rfl rfl rfl ?_
    obtain ⟨g7, h⟩ := gd_some h
    refine k9_i2l fX10_letter_11 g7 ?_
    refine t_s fX10_letter_12 rfl rfl rfl ?_
    refine t_l fX10_letter_13 rfl rfl rfl rfl ?_
    refine k9_gr fX10_letter_14 (hr0).1 kg_10_36 (s10_36r hr0) ?_
    refine t_s fX10_letter_17 rfl rfl rfl ?_
    refine t_l fX10_letter_18 rfl rfl rfl rfl ?_
    refine k9_iadd fX10_letter_19 ?_
    obtain ⟨g8, h⟩ := gd_some h
    refine k9_ia fX10_letter_20 (s10_36s hr0) g8.1 g8.2.1 g8.2.2 ?_
    refine t_s fX10_letter_21 rfl rfl rfl ?_
    refine k9_isub fX10_letter_22 ?_
    obtain ⟨g9, h⟩ := gd_some h
    refine k9_i2l fX10_letter_23 g9 ?_
    obtain ⟨V10, v11, e12, h⟩ := bd_some h
    refine kcX10_isIn fX10_letter_24 rfl (q_X10_isIn  e12) (by decide) ?_
    obtain ⟨g14, h⟩ := gd_some h
    refine k9_if_eq fX10_letter_27 rfl g14 (fun c13 => ?_) (fun c13 => ?_)
    · replace h := ite_t (c13) h
      refine t_s fX10_letter_42 rfl rfl rfl ?_
      refine t_ret fX10_letter_43 rX10_letter ?_
      exact qf_i h
    · replace h := ite_f (c13) h
      refine t_l fX10_letter_30 rfl rfl rfl rfl ?_
      obtain ⟨g15, h⟩ := gd_some h
      refine k9_i2l fX10_letter_31 g15 ?_
      refine t_s fX10_letter_32 rfl rfl rfl ?_
      refine t_s fX10_letter_33 rfl rfl rfl ?_
      obtain ⟨V16, v17, e18, h⟩ := bd_some h
      refine kcX10_isIn fX10_letter_36 rfl (q_X10_isIn  e18) (by decide) ?_
      obtain ⟨g20, h⟩ := gd_some h
      refine k9_if_ne fX10_letter_39 rfl g20 (fun c19 => ?_) (fun c19 => ?_)
      · replace h := ite_f (c19) h
        refine t_l fX10_letter_44 rfl rfl rfl rfl ?_
        refine k9_gr fX10_letter_45 (hr0).1 kg_10_37 (s10_37r hr0) ?_
        refine t_s fX10_letter_48 rfl rfl rfl ?_
        refine t_s fX10_letter_50 rfl rfl rfl ?_
        refine t_l fX10_letter_52 rfl rfl rfl rfl ?_
        refine k9_imul fX10_letter_53 ?_
        refine k9_iadd fX10_letter_54 ?_
        refine t_l fX10_letter_55 rfl rfl rfl rfl ?_
        refine k9_iadd fX10_letter_56 ?_
        obtain ⟨g21, h⟩ := gd_some h
        refine k9_la fX10_letter_57 (s10_37s hr0) g21.1 g21.2.1 g21.2.2 ?_
        replace h := lt_some h
        refine t_l fX10_letter_58 rfl rfl rfl rfl ?_
        refine t_s fX10_letter_60 rfl rfl rfl ?_
        refine t_l fX10_letter_61 rfl rfl rfl rfl ?_
        refine t_l fX10_letter_63 rfl rfl rfl rfl ?_
        refine t_l fX10_letter_65 rfl rfl rfl rfl ?_
        obtain ⟨V27, u28, e29, h⟩ := bd_some h
        refine tl_X10_letter_67 hr0  (fun e30 => ?_) e29
        refine t_l fX10_letter_88 rfl rfl rfl rfl ?_
        refine t_l fX10_letter_89 rfl rfl rfl rfl ?_
        obtain ⟨g32, h⟩ := gd_some h
        refine k9_ic_lt fX10_letter_91 rfl g15 g32 (fun c31 => ?_) (fun c31 => ?_)
        · replace h := ite_t (c31) h
          refine t_l fX10_letter_96 rfl rfl rfl rfl ?_
          refine t_s fX10_letter_98 rfl rfl rfl ?_
          refine k9_isub fX10_letter_99 ?_
          replace h := lt_some h
          refine t_l fX10_letter_100 rfl rfl rfl rfl ?_
          obtain ⟨V40, u41, e42, h⟩ := bd_some h
          refine tl_X10_letter_102 hr0  (fun e43 j6 j8 => ?_) e42
          refine t_l fX10_letter_122 rfl rfl rfl rfl ?_
          refine t_s fX10_letter_124 rfl rfl rfl ?_
          obtain ⟨g44, h⟩ := gd_some h
          refine k9_lrem fX10_letter_127 g44 ⟨by decide, by decide⟩ (by decide) ?_
          refine k9_l2i fX10_letter_128 ?_
          refine t_ret fX10_letter_129 rX10_letter ?_
          exact qf_i h
        · replace h := ite_f (c31) h
          refine t_s fX10_letter_94 rfl rfl rfl ?_
          refine t_ret fX10_letter_95 rX10_letter ?_
          exact qf_i h
      · replace h := ite_t (Classical.not_not.mp c19) h
        refine t_s fX10_letter_42 rfl rfl rfl ?_
        refine t_ret fX10_letter_43 rX10_letter ?_
        exact qf_i h

theorem tb_X10_dutiesOf_4 {X : mX} {n z : Nat} {G : mG} {r0 : Nat} (hr0 : is10 G r0) {x1 x2 x3 : Int} {V V' : mV} {q : Nat × Int × Int} {Q : Nat → Nat → mG → mV → Option Value → Prop} (h0 : q.1 = 0 → T X (1) 219 4 [some (.ref r0), some (.int (iI x1)), some (.int (iI q.2.1)), some (.int (iI q.2.2))] [] n z G V' Q) (h1 : q.1 = 1 → T X (1) 219 31 [some (.ref r0), some (.int (iI x1)), some (.int (iI q.2.1)), some (.int (iI q.2.2))] [] n z G V' Q) (h : B_X10_dutiesOf_4 G r0 x1 x2 x3 V = some (V', q)) : T X (1) 219 4 [some (.ref r0), some (.int (iI x1)), some (.int (iI x2)), some (.int (iI x3))] [] n z G V Q := by
  unfold B_X10_dutiesOf_4 at h
  refine t_l fX10_dutiesOf_4 rfl rfl rfl rfl ?_
  refine t_l fX10_dutiesOf_5 rfl rfl rfl rfl ?_
  obtain ⟨V1, v2, e3, h⟩ := bd_some h
  refine kcX10_dutyMany fX10_dutiesOf_6 (hr0).1 rfl (q_X10_dutyMany (hr0) e3) (by decide) ?_
  obtain ⟨g5, h⟩ := gd_some h
  obtain ⟨g6, h⟩ := gd_some h
  refine k9_ic_ge fX10_dutiesOf_9 rfl g5 g6 (fun c4 => ?_) (fun c4 => ?_)
  · replace h := ite_t (c4) h
    cases h
    exact h1 rfl
  · replace h := ite_f (c4) h
    refine t_l fX10_dutiesOf_12 rfl rfl rfl rfl ?_
    refine t_l fX10_dutiesOf_13 rfl rfl rfl rfl ?_
    refine t_s fX10_dutiesOf_14 rfl rfl rfl ?_
    obtain ⟨V7, v8, e9, h⟩ := bd_some h
    refine kcX10_dutyOf fX10_dutiesOf_15 (hr0).1 rfl (q_X10_dutyOf (hr0) e9) (by decide) ?_
    refine t_l fX10_dutiesOf_18 rfl rfl rfl rfl ?_
    obtain ⟨g11, h⟩ := gd_some h
    obtain ⟨g12, h⟩ := gd_some h
    refine k9_ic_ne fX10_dutiesOf_19 rfl g11 g12 (fun c10 => ?_) (fun c10 => ?_)
    · replace h := ite_f (c10) h
      replace h := lt_some h
      refine k9_iinc fX10_dutiesOf_25 rfl (Nat.le_of_ble_eq_true rfl) rfl ?_
      refine k9_goto fX10_dutiesOf_28 rfl ?_
      cases h
      exact h0 rfl
    · replace h := ite_t (Classical.not_not.mp c10) h
      replace h := lt_some h
      refine k9_iinc fX10_dutiesOf_22 rfl (Nat.le_of_ble_eq_true rfl) rfl ?_
      replace h := lt_some h
      refine k9_iinc fX10_dutiesOf_25 rfl (Nat.le_of_ble_eq_true rfl) rfl ?_
      refine k9_goto fX10_dutiesOf_28 rfl ?_
      cases h
      exact h0 rfl

theorem tl_X10_dutiesOf_4 {X : mX} {n z : Nat} {G : mG} {r0 : Nat} (hr0 : is10 G r0) {x1 x2 x3 : Int} {V V' : mV} {fu : Nat} {q : Nat × Int × Int} {Q : Nat → Nat → mG → mV → Option Value → Prop} (k1 : q.1 = 1 → T X (1) 219 31 [some (.ref r0), some (.int (iI x1)), some (.int (iI q.2.1)), some (.int (iI q.2.2))] [] n z G V' Q) (h : lp (fun (s : Int × Int) V => B_X10_dutiesOf_4 G r0 x1 s.1 s.2 V) fu (x2, x3) V = some (V', q)) : T X (1) 219 4 [some (.ref r0), some (.int (iI x1)), some (.int (iI x2)), some (.int (iI x3))] [] n z G V Q :=
  lp_go (P0 := fun s V => T X (1) 219 4 [some (.ref r0), some (.int (iI x1)), some (.int (iI s.1)), some (.int (iI s.2))] [] n z G V Q) (PE := fun t s V => (t = 1 → T X (1) 219 31 [some (.ref r0), some (.int (iI x1)), some (.int (iI s.1)), some (.int (iI s.2))] [] n z G V Q)) (fun s V V' q hb h0 h1 => tb_X10_dutiesOf_4 hr0  h0 (fun e => (h1 (by omega)) e) hb) fu (x2, x3) V V' q h k1

theorem q_X10_dutiesOf {X : mX} {n z : Nat} {G : mG} {r0 : Nat} (hr0 : is10 G r0) {x1 : Int} {V V' : mV} {v : Int} (h : F_X10_dutiesOf G r0 x1 V = some (V', v)) : Rn X (1) 219 [.ref r0, .int (iI x1)] n z G V n z G V' (some (.int (iI v))) := by
  refine qi_toR (v := v) (L := [some (.ref r0), some (.int (iI x1)), none, none]) rfl ?_
  unfold F_X10_dutiesOf at h
  refine t_s fX10_dutiesOf_0 rfl rfl rfl ?_
  refine t_l fX10_dutiesOf_1 rfl rfl rfl rfl ?_
  refine t_s fX10_dutiesOf_2 rfl rfl rfl ?_
  refine t_l fX10_dutiesOf_3 rfl rfl rfl rfl ?_
  obtain ⟨V16, u17, e18, h⟩ := bd_some h
  refine tl_X10_dutiesOf_4 hr0  (fun e19 => ?_) e18
  refine t_l fX10_dutiesOf_31 rfl rfl rfl rfl ?_
  refine t_ret fX10_dutiesOf_32 rX10_dutiesOf ?_
  exact qf_i h

theorem q_X10_person {X : mX} {n z : Nat} {G : mG} {r0 : Nat} (hr0 : is10 G r0) {x1 x2 : Int} {V V' : mV} {v : Int} (h : F_X10_person G r0 x1 x2 V = some (V', v)) : Rn X (2) 220 [.ref r0, .int (iI x1), .int (iI x2)] n z G V n z G V' (some (.int (iI v))) := by
  refine qi_toR (v := v) (L := [some (.ref r0), some (.int (iI x1)), some (.int (iI x2))]) rfl ?_
  unfold F_X10_person at h
  refine t_l fX10_person_0 rfl rfl rfl rfl ?_
  refine t_l fX10_person_1 rfl rfl rfl rfl ?_
  obtain ⟨V1, v2, e3, h⟩ := bd_some h
  refine kcX10_isPerson fX10_person_2 (hr0).1 rfl (q_X10_isPerson (hr0) e3) (by decide) ?_
  obtain ⟨g5, h⟩ := gd_some h
  refine k9_if_ne fX10_person_5 rfl g5 (fun c4 => ?_) (fun c4 => ?_)
  · replace h := ite_f (c4) h
    refine t_l fX10_person_10 rfl rfl rfl rfl ?_
    obtain ⟨g6, h⟩ := gd_some h
    by_cases c7 : x2 = 0
    · replace h := ite_t c7 h
      refine k9_sw 52 fX10_person_11 g6 (by rw [c7]; rfl) (by rw [c7]; exact Or.inr (Or.inr rfl)) ?_
      refine t_l fX10_person_52 rfl rfl rfl rfl ?_
      refine t_l fX10_person_53 rfl rfl rfl rfl ?_
      obtain ⟨V8, v9, e10, h⟩ := bd_some h
      refine kcX10_wardOf fX10_person_54 (hr0).1 rfl (q_X10_wardOf (hr0) e10) (by decide) ?_
      refine t_ret fX10_person_57 rX10_person ?_
      exact qf_i h
    replace h := ite_f c7 h
    by_cases c11 : x2 = 1
    · replace h := ite_t c11 h
      refine k9_sw 58 fX10_person_11 g6 (by rw [c11]; rfl) (by rw [c11]; exact Or.inr (Or.inr rfl)) ?_
      refine t_l fX10_person_58 rfl rfl rfl rfl ?_
      refine t_l fX10_person_59 rfl rfl rfl rfl ?_
      obtain ⟨V12, v13, e14, h⟩ := bd_some h
      refine kcX10_livesNow fX10_person_60 (hr0).1 rfl (q_X10_livesNow (hr0) e14) (by decide) ?_
      refine t_ret fX10_person_63 rX10_person ?_
      exact qf_i h
    replace h := ite_f c11 h
    by_cases c15 : x2 = 2
    · replace h := ite_t c15 h
      refine k9_sw 64 fX10_person_11 g6 (by rw [c15]; rfl) (by rw [c15]; exact Or.inr (Or.inr rfl)) ?_
      refine t_l fX10_person_64 rfl rfl rfl rfl ?_
      refine t_l fX10_person_65 rfl rfl rfl rfl ?_
      obtain ⟨V16, v17, e18, h⟩ := bd_some h
      refine kcX10_watches fX10_person_66 (hr0).1 rfl (q_X10_watches (hr0) e18) (by decide) ?_
      refine t_ret fX10_person_69 rX10_person ?_
      exact qf_i h
    replace h := ite_f c15 h
    by_cases c19 : x2 = 3
    · replace h := ite_t c19 h
      refine k9_sw 70 fX10_person_11 g6 (by rw [c19]; rfl) (by rw [c19]; exact Or.inr (Or.inr rfl)) ?_
      refine t_l fX10_person_70 rfl rfl rfl rfl ?_
      refine k9_gr fX10_person_71 (hr0).1 kg_10_40 (s10_40r hr0) ?_
      refine t_s fX10_person_74 rfl rfl rfl ?_
      refine t_l fX10_person_76 rfl rfl rfl rfl ?_
      refine k9_iadd fX10_person_77 ?_
      obtain ⟨g20, h⟩ := gd_some h
      refine k9_ia fX10_person_78 (s10_40s hr0) g20.1 g20.2.1 g20.2.2 ?_
      refine t_ret fX10_person_79 rX10_person ?_
      exact qf_i h
    replace h := ite_f c19 h
    by_cases c21 : x2 = 4
    · replace h := ite_t c21 h
      refine k9_sw 80 fX10_person_11 g6 (by rw [c21]; rfl) (by rw [c21]; exact Or.inr (Or.inr rfl)) ?_
      refine t_l fX10_person_80 rfl rfl rfl rfl ?_
      refine k9_gr fX10_person_81 (hr0).1 kg_10_41 (s10_41r hr0) ?_
      refine t_s fX10_person_84 rfl rfl rfl ?_
      refine t_l fX10_person_86 rfl rfl rfl rfl ?_
      refine k9_iadd fX10_person_87 ?_
      obtain ⟨g22, h⟩ := gd_some h
      refine k9_ia fX10_person_88 (s10_41s hr0) g22.1 g22.2.1 g22.2.2 ?_
      refine t_ret fX10_person_89 rX10_person ?_
      exact qf_i h
    replace h := ite_f c21 h
    by_cases c23 : x2 = 5
    · replace h := ite_t c23 h
      refine k9_sw 90 fX10_person_11 g6 (by rw [c23]; rfl) (by rw [c23]; exact Or.inr (Or.inr rfl)) ?_
      refine t_l fX10_person_90 rfl rfl rfl rfl ?_
      refine t_l fX10_person_91 rfl rfl rfl rfl ?_
      obtain ⟨V24, v25, e26, h⟩ := bd_some h
      refine kcX10_dutiesOf fX10_person_92 (hr0).1 rfl (q_X10_dutiesOf (hr0) e26) (by decide) ?_
      refine t_ret fX10_person_95 rX10_person ?_
      exact qf_i h
    replace h := ite_f c23 h
    by_cases c27 : x2 = 6
    · replace h := ite_t c27 h
      refine k9_sw 96 fX10_person_11 g6 (by rw [c27]; rfl) (by rw [c27]; exact Or.inr (Or.inr rfl)) ?_
      refine t_l fX10_person_96 rfl rfl rfl rfl ?_
      refine t_l fX10_person_97 rfl rfl rfl rfl ?_
      obtain ⟨V28, v29, e30, h⟩ := bd_some h
      refine kcX10_whoLives fX10_person_98 (hr0).1 rfl (q_X10_whoLives (hr0) e30) (by decide) ?_
      refine t_ret fX10_person_101 rX10_person ?_
      exact qf_i h
    replace h := ite_f c27 h
    have hd11 : (x2 < 0 ∨ 6 < x2) := by omega
    refine k9_sw 102 fX10_person_11 g6 (by rw [if_pos hd11]; rfl) (by omega) ?_
    refine t_s fX10_person_102 rfl rfl rfl ?_
    refine t_ret fX10_person_103 rX10_person ?_
    exact qf_i h
  · replace h := ite_t (Classical.not_not.mp c4) h
    refine t_s fX10_person_8 rfl rfl rfl ?_
    refine t_ret fX10_person_9 rX10_person ?_
    exact qf_i h

theorem q_X10_points {X : mX} {n z : Nat} {G : mG} {r0 : Nat} (hr0 : is10 G r0) {x1 x2 : Int} {V V' : mV} {v : Int} (h : F_X10_points G r0 x1 x2 V = some (V', v)) : Rn X (2) 221 [.ref r0, .int (iI x1), .int (iI x2)] n z G V n z G V' (some (.int (iI v))) := by
  refine qi_toR (v := v) (L := [some (.ref r0), some (.int (iI x1)), some (.int (iI x2))]) rfl ?_
  unfold F_X10_points at h
  refine t_l fX10_points_0 rfl rfl rfl rfl ?_
  refine t_l fX10_points_1 rfl rfl rfl rfl ?_
  obtain ⟨V1, v2, e3, h⟩ := bd_some h
  refine kcX10_isPerson fX10_points_2 (hr0).1 rfl (q_X10_isPerson (hr0) e3) (by decide) ?_
  obtain ⟨g5, h⟩ := gd_some h
  refine k9_if_eq fX10_points_5 rfl g5 (fun c4 => ?_) (fun c4 => ?_)
  · replace h := ite_t (c4) h
    refine t_s fX10_points_25 rfl rfl rfl ?_
    refine t_ret fX10_points_26 rX10_points ?_
    exact qf_i h
  · replace h := ite_f (c4) h
    refine t_l fX10_points_8 rfl rfl rfl rfl ?_
    refine t_l fX10_points_9 rfl rfl rfl rfl ?_
    obtain ⟨V6, v7, e8, h⟩ := bd_some h
    refine kcX10_isPerson fX10_points_10 (hr0).1 rfl (q_X10_isPerson (hr0) e8) (by decide) ?_
    obtain ⟨g10, h⟩ := gd_some h
    refine k9_if_eq fX10_points_13 rfl g10 (fun c9 => ?_) (fun c9 => ?_)
    · replace h := ite_t (c9) h
      refine t_s fX10_points_25 rfl rfl rfl ?_
      refine t_ret fX10_points_26 rX10_points ?_
      exact qf_i h
    · replace h := ite_f (c9) h
      refine t_l fX10_points_16 rfl rfl rfl rfl ?_
      refine t_l fX10_points_17 rfl rfl rfl rfl ?_
      refine t_l fX10_points_18 rfl rfl rfl rfl ?_
      obtain ⟨V11, v12, e13, h⟩ := bd_some h
      refine kcX10_pointsOf fX10_points_19 (hr0).1 rfl (q_X10_pointsOf (hr0) e13) (by decide) ?_
      refine k9_goto fX10_points_22 rfl ?_
      refine t_ret fX10_points_26 rX10_points ?_
      exact qf_i h

theorem q_X10_isTask {X : mX} {n z : Nat} {G : mG} {r0 : Nat} (hr0 : is10 G r0) {x1 : Int} {V V' : mV} {v : Int} (h : F_X10_isTask G r0 x1 V = some (V', v)) : Rn X (1) 222 [.ref r0, .int (iI x1)] n z G V n z G V' (some (.int (iI v))) := by
  refine qi_toR (v := v) (L := [some (.ref r0), some (.int (iI x1))]) rfl ?_
  unfold F_X10_isTask at h
  refine t_l fX10_isTask_0 rfl rfl rfl rfl ?_
  obtain ⟨g1, h⟩ := gd_some h
  refine k9_i2l fX10_isTask_1 g1 ?_
  refine t_s fX10_isTask_2 rfl rfl rfl ?_
  refine t_l fX10_isTask_3 rfl rfl rfl rfl ?_
  refine k9_gr fX10_isTask_4 (hr0).1 kg_10_36 (s10_36r hr0) ?_
  refine t_s fX10_isTask_7 rfl rfl rfl ?_
  refine k9_ia fX10_isTask_8 (s10_36s hr0) (by decide) (by decide) (by decide) ?_
  refine t_s fX10_isTask_9 rfl rfl rfl ?_
  refine k9_isub fX10_isTask_10 ?_
  obtain ⟨g2, h⟩ := gd_some h
  refine k9_i2l fX10_isTask_11 g2 ?_
  obtain ⟨V3, v4, e5, h⟩ := bd_some h
  refine kcX10_isIn fX10_isTask_12 rfl (q_X10_isIn  e5) (by decide) ?_
  obtain ⟨g6, h⟩ := gd_some h
  refine t_ret fX10_isTask_15 (rX10_isTask _ g6) ?_
  exact qf_i h

theorem q_X10_could {X : mX} {n z : Nat} {G : mG} {r0 : Nat} (hr0 : is10 G r0) {x1 x2 x3 x4 : Int} {V V' : mV} {v : Int} (h : F_X10_could G r0 x1 x2 x3 x4 V = some (V', v)) : Rn X (5) 223 [.ref r0, .int (iI x1), .int (iI x2), .int (iI x3), .int (iI x4)] n z G V n z G V' (some (.int (iI v))) := by
  refine qi_toR (v := v) (L := [some (.ref r0), some (.int (iI x1)), some (.int (iI x2)), some (.int (iI x3)), some (.int (iI x4))]) rfl ?_
  unfold F_X10_could at h
  refine t_l fX10_could_0 rfl rfl rfl rfl ?_
  refine t_l fX10_could_1 rfl rfl rfl rfl ?_
  obtain ⟨V1, v2, e3, h⟩ := bd_some h
  refine kcX10_isPerson fX10_could_2 (hr0).1 rfl (q_X10_isPerson (hr0) e3) (by decide) ?_
  obtain ⟨g5, h⟩ := gd_some h
  refine k9_if_eq fX10_could_5 rfl g5 (fun c4 => ?_) (fun c4 => ?_)
  · replace h := ite_t (c4) h
    refine t_s fX10_could_37 rfl rfl rfl ?_
    refine t_ret fX10_could_38 rX10_could ?_
    exact qf_i h
  · replace h := ite_f (c4) h
    refine t_l fX10_could_8 rfl rfl rfl rfl ?_
    refine t_l fX10_could_9 rfl rfl rfl rfl ?_
    obtain ⟨V6, v7, e8, h⟩ := bd_some h
    refine kcX10_isPerson fX10_could_10 (hr0).1 rfl (q_X10_isPerson (hr0) e8) (by decide) ?_
    obtain ⟨g10, h⟩ := gd_some h
    refine k9_if_eq fX10_could_13 rfl g10 (fun c9 => ?_) (fun c9 => ?_)
    · replace h := ite_t (c9) h
      refine t_s fX10_could_37 rfl rfl rfl ?_
      refine t_ret fX10_could_38 rX10_could ?_
      exact qf_i h
    · replace h := ite_f (c9) h
      refine t_l fX10_could_16 rfl rfl rfl rfl ?_
      refine t_l fX10_could_17 rfl rfl rfl rfl ?_
      obtain ⟨V11, v12, e13, h⟩ := bd_some h
      refine kcX10_isTask fX10_could_18 (hr0).1 rfl (q_X10_isTask (hr0) e13) (by decide) ?_
      obtain ⟨g15, h⟩ := gd_some h
      refine k9_if_eq fX10_could_21 rfl g15 (fun c14 => ?_) (fun c14 => ?_)
      · replace h := ite_t (c14) h
        refine t_s fX10_could_37 rfl rfl rfl ?_
        refine t_ret fX10_could_38 rX10_could ?_
        exact qf_i h
      · replace h := ite_f (c14) h
        refine t_l fX10_could_24 rfl rfl rfl rfl ?_
        obtain ⟨g16, h⟩ := gd_some h
        refine k9_i2l fX10_could_26 g16 ?_
        refine t_s fX10_could_27 rfl rfl rfl ?_
        refine t_s fX10_could_28 rfl rfl rfl ?_
        obtain ⟨V17, v18, e19, h⟩ := bd_some h
        refine kcX10_isIn fX10_could_31 rfl (q_X10_isIn  e19) (by decide) ?_
        obtain ⟨g21, h⟩ := gd_some h
        refine k9_if_ne fX10_could_34 rfl g21 (fun c20 => ?_) (fun c20 => ?_)
        · replace h := ite_f (c20) h
          refine t_l fX10_could_39 rfl rfl rfl rfl ?_
          refine t_l fX10_could_40 rfl rfl rfl rfl ?_
          refine t_l fX10_could_41 rfl rfl rfl rfl ?_
          refine t_l fX10_could_42 rfl rfl rfl rfl ?_
          refine t_l fX10_could_43 rfl rfl rfl rfl ?_
          obtain ⟨V22, v23, e24, h⟩ := bd_some h
          refine kcX10_canDo fX10_could_45 (hr0).1 rfl (q_X10_canDo (hr0) e24) (by decide) ?_
          obtain ⟨g26, h⟩ := gd_some h
          refine k9_if_eq fX10_could_48 rfl g26 (fun c25 => ?_) (fun c25 => ?_)
          · replace h := ite_t (c25) h
            refine t_s fX10_could_55 rfl rfl rfl ?_
            refine t_ret fX10_could_56 rX10_could ?_
            exact qf_i h
          · replace h := ite_f (c25) h
            refine t_s fX10_could_51 rfl rfl rfl ?_
            refine k9_goto fX10_could_52 rfl ?_
            refine t_ret fX10_could_56 rX10_could ?_
            exact qf_i h
        · replace h := ite_t (Classical.not_not.mp c20) h
          refine t_s fX10_could_37 rfl rfl rfl ?_
          refine t_ret fX10_could_38 rX10_could ?_
          exact qf_i h

theorem q_X10_kept {X : mX} {n z : Nat} {G : mG} {r0 : Nat} (hr0 : is10 G r0) {x1 x2 : Int} {V V' : mV} {v : Int} (h : F_X10_kept G r0 x1 x2 V = some (V', v)) : Rn X (1) 224 [.ref r0, .int (iI x1), .int (iI x2)] n z G V n z G V' (some (.int (iI v))) := by
  refine qi_toR (v := v) (L := [some (.ref r0), some (.int (iI x1)), some (.int (iI x2))]) rfl ?_
  unfold F_X10_kept at h
  refine t_l fX10_kept_0 rfl rfl rfl rfl ?_
  obtain ⟨g1, h⟩ := gd_some h
  refine k9_i2l fX10_kept_1 g1 ?_
  refine t_s fX10_kept_2 rfl rfl rfl ?_
  refine t_l fX10_kept_3 rfl rfl rfl rfl ?_
  refine k9_gr fX10_kept_4 (hr0).1 kg_10_49 (s10_49r hr0) ?_
  refine t_s fX10_kept_7 rfl rfl rfl ?_
  refine k9_ia fX10_kept_9 (s10_49s hr0) (by decide) (by decide) (by decide) ?_
  refine t_s fX10_kept_10 rfl rfl rfl ?_
  refine k9_isub fX10_kept_11 ?_
  obtain ⟨g2, h⟩ := gd_some h
  refine k9_i2l fX10_kept_12 g2 ?_
  obtain ⟨V3, v4, e5, h⟩ := bd_some h
  refine kcX10_isIn fX10_kept_13 rfl (q_X10_isIn  e5) (by decide) ?_
  obtain ⟨g7, h⟩ := gd_some h
  refine k9_if_eq fX10_kept_16 rfl g7 (fun c6 => ?_) (fun c6 => ?_)
  · replace h := ite_t (c6) h
    refine t_s fX10_kept_47 rfl rfl rfl ?_
    refine t_ret fX10_kept_48 rX10_kept ?_
    exact qf_i h
  · replace h := ite_f (c6) h
    refine t_l fX10_kept_19 rfl rfl rfl rfl ?_
    obtain ⟨g8, h⟩ := gd_some h
    refine k9_i2l fX10_kept_20 g8 ?_
    refine t_s fX10_kept_21 rfl rfl rfl ?_
    refine t_s fX10_kept_22 rfl rfl rfl ?_
    obtain ⟨V9, v10, e11, h⟩ := bd_some h
    refine kcX10_isIn fX10_kept_25 rfl (q_X10_isIn  e11) (by decide) ?_
    obtain ⟨g13, h⟩ := gd_some h
    refine k9_if_eq fX10_kept_28 rfl g13 (fun c12 => ?_) (fun c12 => ?_)
    · replace h := ite_t (c12) h
      refine t_s fX10_kept_47 rfl rfl rfl ?_
      refine t_ret fX10_kept_48 rX10_kept ?_
      exact qf_i h
    · replace h := ite_f (c12) h
      refine t_l fX10_kept_31 rfl rfl rfl rfl ?_
      refine k9_gr fX10_kept_32 (hr0).1 kg_10_49 (s10_49r hr0) ?_
      refine t_s fX10_kept_35 rfl rfl rfl ?_
      refine t_s fX10_kept_37 rfl rfl rfl ?_
      refine t_l fX10_kept_38 rfl rfl rfl rfl ?_
      refine k9_imul fX10_kept_39 ?_
      refine k9_iadd fX10_kept_40 ?_
      refine t_l fX10_kept_41 rfl rfl rfl rfl ?_
      refine k9_iadd fX10_kept_42 ?_
      obtain ⟨g14, h⟩ := gd_some h
      refine k9_ia fX10_kept_43 (s10_49s hr0) g14.1 g14.2.1 g14.2.2 ?_
      refine k9_goto fX10_kept_44 rfl ?_
      refine t_ret fX10_kept_48 rX10_kept ?_
      exact qf_i h

theorem q_X10_isHere0 {X : mX} {n z : Nat} {G : mG} {r0 : Nat} (hr0 : is10 G r0) {x1 : Int} {V V' : mV} {v : Int} (h : F_X10_isHere0 G r0 x1 V = some (V', v)) : Rn X (2) 225 [.ref r0, .int (iI x1)] n z G V n z G V' (some (.int (iI v))) := by
  refine qi_toR (v := v) (L := [some (.ref r0), some (.int (iI x1))]) rfl ?_
  unfold F_X10_isHere0 at h
  refine t_l fX10_isHere0_0 rfl rfl rfl rfl ?_
  refine t_l fX10_isHere0_1 rfl rfl rfl rfl ?_
  obtain ⟨V1, v2, e3, h⟩ := bd_some h
  refine kcX10_isPerson fX10_isHere0_2 (hr0).1 rfl (q_X10_isPerson (hr0) e3) (by decide) ?_
  obtain ⟨g5, h⟩ := gd_some h
  refine k9_if_eq fX10_isHere0_5 rfl g5 (fun c4 => ?_) (fun c4 => ?_)
  · replace h := ite_t (c4) h
    refine t_s fX10_isHere0_21 rfl rfl rfl ?_
    refine t_ret fX10_isHere0_22 (rX10_isHere0 _ (by decide)) ?_
    exact qf_i h
  · replace h := ite_f (c4) h
    refine t_l fX10_isHere0_8 rfl rfl rfl rfl ?_
    refine t_l fX10_isHere0_9 rfl rfl rfl rfl ?_
    obtain ⟨V6, v7, e8, h⟩ := bd_some h
    refine kcX10_livesNow fX10_isHere0_10 (hr0).1 rfl (q_X10_livesNow (hr0) e8) (by decide) ?_
    refine t_s fX10_isHere0_13 rfl rfl rfl ?_
    obtain ⟨g10, h⟩ := gd_some h
    refine k9_ic_eq fX10_isHere0_14 rfl g10 ⟨by decide, by decide⟩ (fun c9 => ?_) (fun c9 => ?_)
    · replace h := ite_t (c9) h
      refine t_s fX10_isHere0_21 rfl rfl rfl ?_
      refine t_ret fX10_isHere0_22 (rX10_isHere0 _ (by decide)) ?_
      exact qf_i h
    · replace h := ite_f (c9) h
      refine t_s fX10_isHere0_17 rfl rfl rfl ?_
      refine k9_goto fX10_isHere0_18 rfl ?_
      refine t_ret fX10_isHere0_22 (rX10_isHere0 _ (by decide)) ?_
      exact qf_i h

theorem q_X10_wave {X : mX} {n z : Nat} {G : mG} {r0 : Nat} (hr0 : is10 G r0) {x1 x2 : Int} {V V' : mV} {v : Int} (h : F_X10_wave G r0 x1 x2 V = some (V', v)) : Rn X (3) 226 [.ref r0, .int (iI x1), .int (iI x2)] n z G V n z G V' (some (.int (iI v))) := by
  refine qi_toR (v := v) (L := [some (.ref r0), some (.int (iI x1)), some (.int (iI x2))]) rfl ?_
  unfold F_X10_wave at h
  refine t_l fX10_wave_0 rfl rfl rfl rfl ?_
  refine t_l fX10_wave_1 rfl rfl rfl rfl ?_
  obtain ⟨V1, v2, e3, h⟩ := bd_some h
  refine kcX10_isHere0 fX10_wave_2 (hr0).1 rfl (q_X10_isHere0 (hr0) e3) (by decide) ?_
  obtain ⟨g5, h⟩ := gd_some h
  refine k9_if_ne fX10_wave_5 rfl g5 (fun c4 => ?_) (fun c4 => ?_)
  · replace h := ite_f (c4) h
    refine t_l fX10_wave_10 rfl rfl rfl rfl ?_
    obtain ⟨V6, v7, e8, h⟩ := bd_some h
    refine kcX10_putsAside fX10_wave_11 (hr0).1 rfl (q_X10_putsAside (hr0) e8) (by decide) ?_
    refine t_l fX10_wave_14 rfl rfl rfl rfl ?_
    refine t_l fX10_wave_15 rfl rfl rfl rfl ?_
    obtain ⟨V9, v10, e11, h⟩ := bd_some h
    refine kcX10_isCalled fX10_wave_16 (hr0).1 rfl (q_X10_isCalled (hr0) e11) (by decide) ?_
    refine t_l fX10_wave_19 rfl rfl rfl rfl ?_
    obtain ⟨V12, v13, e14, h⟩ := bd_some h
    refine kcX10_takesBack fX10_wave_20 (hr0).1 rfl (q_X10_takesBack (hr0) e14) (by decide) ?_
    refine t_l fX10_wave_23 rfl rfl rfl rfl ?_
    refine t_s fX10_wave_24 rfl rfl rfl ?_
    obtain ⟨g16, h⟩ := gd_some h
    refine k9_ic_ne fX10_wave_25 rfl g16 ⟨by decide, by decide⟩ (fun c15 => ?_) (fun c15 => ?_)
    · replace h := ite_f (c15) h
      refine t_l fX10_wave_35 rfl rfl rfl rfl ?_
      refine t_s fX10_wave_36 rfl rfl rfl ?_
      refine k9_ic_ne fX10_wave_38 rfl g16 ⟨by decide, by decide⟩ (fun c17 => ?_) (fun c17 => ?_)
      · replace h := ite_f (c17) h
        refine t_l fX10_wave_48 rfl rfl rfl rfl ?_
        refine k9_i2l fX10_wave_49 g16 ?_
        refine t_s fX10_wave_50 rfl rfl rfl ?_
        refine t_l fX10_wave_51 rfl rfl rfl rfl ?_
        refine k9_gi fX10_wave_52 (hr0).1 kg_10_64 ?_
        refine t_s fX10_wave_55 rfl rfl rfl ?_
        refine k9_isub fX10_wave_56 ?_
        obtain ⟨g18, h⟩ := gd_some h
        refine k9_i2l fX10_wave_57 g18 ?_
        obtain ⟨V19, v20, e21, h⟩ := bd_some h
        refine kcX10_isIn fX10_wave_58 rfl (q_X10_isIn  e21) (by decide) ?_
        obtain ⟨g23, h⟩ := gd_some h
        refine k9_if_eq fX10_wave_61 rfl g23 (fun c22 => ?_) (fun c22 => ?_)
        · replace h := ite_t (c22) h
          refine t_s fX10_wave_73 rfl rfl rfl ?_
          refine t_ret fX10_wave_74 rX10_wave ?_
          exact qf_i h
        · replace h := ite_f (c22) h
          refine t_l fX10_wave_64 rfl rfl rfl rfl ?_
          refine k9_gr fX10_wave_65 (hr0).1 kg_10_63 (s10_63r hr0) ?_
          refine t_l fX10_wave_68 rfl rfl rfl rfl ?_
          obtain ⟨g24, h⟩ := gd_some h
          refine k9_ia fX10_wave_69 (s10_63s hr0) g24.1 g24.2.1 g24.2.2 ?_
          refine k9_goto fX10_wave_70 rfl ?_
          refine t_ret fX10_wave_74 rX10_wave ?_
          exact qf_i h
      · replace h := ite_t (Classical.not_not.mp c17) h
        refine t_l fX10_wave_41 rfl rfl rfl rfl ?_
        refine k9_gi fX10_wave_42 (hr0).1 kg_10_65 ?_
        refine k9_goto fX10_wave_45 rfl ?_
        refine t_ret fX10_wave_74 rX10_wave ?_
        exact qf_i h
    · replace h := ite_t (Classical.not_not.mp c15) h
      refine t_l fX10_wave_28 rfl rfl rfl rfl ?_
      refine k9_gi fX10_wave_29 (hr0).1 kg_10_64 ?_
      refine k9_goto fX10_wave_32 rfl ?_
      refine t_ret fX10_wave_74 rX10_wave ?_
      exact qf_i h
  · replace h := ite_t (Classical.not_not.mp c4) h
    refine t_s fX10_wave_8 rfl rfl rfl ?_
    refine t_ret fX10_wave_9 rX10_wave ?_
    exact qf_i h

theorem q_X10_least {X : mX} {n z : Nat} {G : mG}  {x0 x1 : Int} {V V' : mV} {v : Int} (h : F_X10_least G x0 x1 V = some (V', v)) : Rn X (0) 227 [.int (iI x0), .int (iI x1)] n z G V n z G V' (some (.int (iI v))) := by
  refine qi_toR (v := v) (L := [some (.int (iI x0)), some (.int (iI x1))]) rfl ?_
  unfold F_X10_least at h
  refine t_l fX10_least_0 rfl rfl rfl rfl ?_
  refine t_l fX10_least_1 rfl rfl rfl rfl ?_
  obtain ⟨g2, h⟩ := gd_some h
  obtain ⟨g3, h⟩ := gd_some h
  refine k9_ic_ge fX10_least_2 rfl g2 g3 (fun c1 => ?_) (fun c1 => ?_)
  · replace h := ite_t (c1) h
    refine t_l fX10_least_9 rfl rfl rfl rfl ?_
    refine t_ret fX10_least_10 rX10_least ?_
    exact qf_i h
  · replace h := ite_f (c1) h
    refine t_l fX10_least_5 rfl rfl rfl rfl ?_
    refine k9_goto fX10_least_6 rfl ?_
    refine t_ret fX10_least_10 rX10_least ?_
    exact qf_i h

theorem q_X10_would {X : mX} {n z : Nat} {G : mG} {r0 : Nat} (hr0 : is10 G r0) {x1 x2 : Int} {V V' : mV} {v : Int} (h : F_X10_would G r0 x1 x2 V = some (V', v)) : Rn X (8) 228 [.ref r0, .int (iI x1), .int (iI x2)] n z G V n z G V' (some (.int (iI v))) := by
  refine qi_toR (v := v) (L := [some (.ref r0), some (.int (iI x1)), some (.int (iI x2))]) rfl ?_
  unfold F_X10_would at h
  refine t_l fX10_would_0 rfl rfl rfl rfl ?_
  refine t_l fX10_would_1 rfl rfl rfl rfl ?_
  obtain ⟨V1, v2, e3, h⟩ := bd_some h
  refine kcX10_isHere0 fX10_would_2 (hr0).1 rfl (q_X10_isHere0 (hr0) e3) (by decide) ?_
  obtain ⟨g5, h⟩ := gd_some h
  refine k9_if_eq fX10_would_5 rfl g5 (fun c4 => ?_) (fun c4 => ?_)
  · replace h := ite_t (c4) h
    refine t_s fX10_would_18 rfl rfl rfl ?_
    refine t_ret fX10_would_19 rX10_would ?_
    exact qf_i h
  · replace h := ite_f (c4) h
    refine t_l fX10_would_8 rfl rfl rfl rfl ?_
    obtain ⟨g6, h⟩ := gd_some h
    refine k9_i2l fX10_would_9 g6 ?_
    refine t_s fX10_would_10 rfl rfl rfl ?_
    refine t_s fX10_would_11 rfl rfl rfl ?_
    obtain ⟨V7, v8, e9, h⟩ := bd_some h
    refine kcX10_isIn fX10_would_12 rfl (q_X10_isIn  e9) (by decide) ?_
    obtain ⟨g11, h⟩ := gd_some h
    refine k9_if_ne fX10_would_15 rfl g11 (fun c10 => ?_) (fun c10 => ?_)
    · replace h := ite_f (c10) h
      refine t_l fX10_would_20 rfl rfl rfl rfl ?_
      obtain ⟨V12, v13, e14, h⟩ := bd_some h
      refine kcX10_putsAside fX10_would_21 (hr0).1 rfl (q_X10_putsAside (hr0) e14) (by decide) ?_
      refine t_l fX10_would_24 rfl rfl rfl rfl ?_
      refine t_l fX10_would_25 rfl rfl rfl rfl ?_
      obtain ⟨V15, v16, e17, h⟩ := bd_some h
      refine kcX10_isCalled fX10_would_26 (hr0).1 rfl (q_X10_isCalled (hr0) e17) (by decide) ?_
      refine t_l fX10_would_29 rfl rfl rfl rfl ?_
      obtain ⟨V18, v19, e20, h⟩ := bd_some h
      refine kcX10_clearsDried fX10_would_30 (hr0).1 rfl (q_X10_clearsDried (hr0) e20) (by decide) ?_
      refine t_l fX10_would_33 rfl rfl rfl rfl ?_
      refine t_s fX10_would_34 rfl rfl rfl ?_
      refine t_l fX10_would_36 rfl rfl rfl rfl ?_
      refine k9_gr fX10_would_37 (hr0).1 kg_10_49 (s10_49r hr0) ?_
      refine t_s fX10_would_40 rfl rfl rfl ?_
      refine k9_ia fX10_would_41 (s10_49s hr0) (by decide) (by decide) (by decide) ?_
      refine t_s fX10_would_42 rfl rfl rfl ?_
      obtain ⟨g21, h⟩ := gd_some h
      refine k9_irem fX10_would_44 g21 ⟨by decide, by decide⟩ (by decide) ?_
      refine k9_isub fX10_would_45 ?_
      refine t_s fX10_would_46 rfl rfl rfl ?_
      refine t_l fX10_would_49 rfl rfl rfl rfl ?_
      refine k9_gr fX10_would_50 (hr0).1 kg_10_49 (s10_49r hr0) ?_
      refine t_s fX10_would_53 rfl rfl rfl ?_
      refine k9_ia fX10_would_54 (s10_49s hr0) (by decide) (by decide) (by decide) ?_
      refine k9_isub fX10_would_55 ?_
      obtain ⟨V22, v23, e24, h⟩ := bd_some h
      refine kcX10_least fX10_would_56 rfl (q_X10_least  e24) (by decide) ?_
      obtain ⟨V25, v26, e27, h⟩ := bd_some h
      refine kcX10_hoursCome fX10_would_59 (hr0).1 rfl (q_X10_hoursCome (hr0) e27) (by decide) ?_
      refine t_l fX10_would_62 rfl rfl rfl rfl ?_
      obtain ⟨V28, v29, e30, h⟩ := bd_some h
      refine kcX10_takesBack fX10_would_63 (hr0).1 rfl (q_X10_takesBack (hr0) e30) (by decide) ?_
      refine t_l fX10_would_66 rfl rfl rfl rfl ?_
      refine k9_gr fX10_would_67 (hr0).1 kg_10_59 (s10_59r hr0) ?_
      refine t_l fX10_would_70 rfl rfl rfl rfl ?_
      obtain ⟨g31, h⟩ := gd_some h
      refine k9_ia fX10_would_71 (s10_59s hr0) g31.1 g31.2.1 g31.2.2 ?_
      refine t_ret fX10_would_72 rX10_would ?_
      exact qf_i h
    · replace h := ite_t (Classical.not_not.mp c10) h
      refine t_s fX10_would_18 rfl rfl rfl ?_
      refine t_ret fX10_would_19 rX10_would ?_
      exact qf_i h

theorem tb_X10_first_22 {X : mX} {n z : Nat} {G : mG} {r0 : Nat} (hr0 : is10 G r0) {x1 : Int} {j2 : Option Value} {V V' : mV} {q : Nat × Unit} {Q : Nat → Nat → mG → mV → Option Value → Prop} (h0 : q.1 = 0 → ∀ j2 : Option Value, T X (7) 229 22 [some (.ref r0), some (.int (iI x1)), j2] [] n z G V' Q) (h1 : q.1 = 1 → ∀ j2 : Option Value, T X (7) 229 67 [some (.ref r0), some (.int (iI x1)), j2] [] n z G V' Q) (h : B_X10_first_22 G r0 x1 V = some (V', q)) : T X (7) 229 22 [some (.ref r0), some (.int (iI x1)), j2] [] n z G V Q := by
  unfold B_X10_first_22 at h
  refine t_l fX10_first_22 rfl rfl rfl rfl ?_
  refine k9_gi fX10_first_23 (hr0).1 kg_10_61 ?_
  refine t_s fX10_first_26 rfl rfl rfl ?_
  obtain ⟨g14, h⟩ := gd_some h
  refine k9_ic_ne fX10_first_27 rfl g14 ⟨by decide, by decide⟩ (fun c13 => ?_) (fun c13 => ?_)
  · replace h := ite_f (c13) h
    cases h
    exact h1 rfl _
  · replace h := ite_t (Classical.not_not.mp c13) h
    refine t_l fX10_first_30 rfl rfl rfl rfl ?_
    refine k9_gr fX10_first_31 (hr0).1 kg_10_49 (s10_49r hr0) ?_
    refine t_s fX10_first_34 rfl rfl rfl ?_
    refine k9_ia fX10_first_35 (s10_49s hr0) (by decide) (by decide) (by decide) ?_
    refine t_s fX10_first_36 rfl rfl rfl ?_
    obtain ⟨g16, h⟩ := gd_some h
    refine k9_ic_ge fX10_first_39 rfl g16 ⟨by decide, by decide⟩ (fun c15 => ?_) (fun c15 => ?_)
    · replace h := ite_t (c15) h
      cases h
      exact h1 rfl _
    · replace h := ite_f (c15) h
      refine t_l fX10_first_42 rfl rfl rfl rfl ?_
      refine k9_gr fX10_first_43 (hr0).1 kg_10_49 (s10_49r hr0) ?_
      refine t_s fX10_first_46 rfl rfl rfl ?_
      refine k9_ia fX10_first_47 (s10_49s hr0) (by decide) (by decide) (by decide) ?_
      refine t_l fX10_first_48 rfl rfl rfl rfl ?_
      refine k9_gr fX10_first_49 (hr0).1 kg_10_50 (s10_50r hr0) ?_
      refine t_s fX10_first_52 rfl rfl rfl ?_
      refine k9_ia fX10_first_53 (s10_50s hr0) (by decide) (by decide) (by decide) ?_
      refine k9_isub fX10_first_54 ?_
      refine t_s fX10_first_55 rfl rfl rfl ?_
      obtain ⟨g18, h⟩ := gd_some h
      refine k9_ic_ge fX10_first_57 rfl g18 ⟨by decide, by decide⟩ (fun c17 => ?_) (fun c17 => ?_)
      · replace h := ite_t (c17) h
        cases h
        exact h1 rfl _
      · replace h := ite_f (c17) h
        refine t_l fX10_first_60 rfl rfl rfl rfl ?_
        obtain ⟨V19, v20, e21, h⟩ := bd_some h
        refine kcX10_hourComes fX10_first_61 (hr0).1 rfl (q_X10_hourComes (hr0) e21) (by decide) ?_
        refine k9_goto fX10_first_64 rfl ?_
        cases h
        exact h0 rfl _

theorem tl_X10_first_22 {X : mX} {n z : Nat} {G : mG} {r0 : Nat} (hr0 : is10 G r0) {x1 : Int} {j2 : Option Value} {V V' : mV} {fu : Nat} {q : Nat × Unit} {Q : Nat → Nat → mG → mV → Option Value → Prop} (k1 : q.1 = 1 → ∀ j2 : Option Value, T X (7) 229 67 [some (.ref r0), some (.int (iI x1)), j2] [] n z G V' Q) (h : lp (fun (s : Unit) V => B_X10_first_22 G r0 x1  V) fu () V = some (V', q)) : T X (7) 229 22 [some (.ref r0), some (.int (iI x1)), j2] [] n z G V Q :=
  lp_go (P0 := fun s V => ∀ j2 : Option Value, T X (7) 229 22 [some (.ref r0), some (.int (iI x1)), j2] [] n z G V Q) (PE := fun t s V => (t = 1 → ∀ j2 : Option Value, T X (7) 229 67 [some (.ref r0), some (.int (iI x1)), j2] [] n z G V Q)) (fun s V V' q hb h0 h1 => fun _ => tb_X10_first_22 hr0  h0 (fun e => (h1 (by omega)) e) hb) fu () V V' q h k1 _

theorem tj_X10_first_J67 {X : mX} {n z : Nat} {G : mG} {r0 : Nat} (hr0 : is10 G r0) {x1 : Int} {j2 : Option Value} {V V' : mV} {v : Int} (h : F_X10_first_J67 G r0 x1 V = some (V', v)) : T X (7) 229 67 [some (.ref r0), some (.int (iI x1)), j2] [] n z G V (qi n z G V' v) := by
  unfold F_X10_first_J67 at h
  refine t_l fX10_first_67 rfl rfl rfl rfl ?_
  refine k9_gr fX10_first_68 (hr0).1 kg_10_49 (s10_49r hr0) ?_
  refine t_s fX10_first_71 rfl rfl rfl ?_
  refine k9_ia fX10_first_72 (s10_49s hr0) (by decide) (by decide) (by decide) ?_
  replace h := lt_some h
  refine t_l fX10_first_73 rfl rfl rfl rfl ?_
  refine t_l fX10_first_74 rfl rfl rfl rfl ?_
  obtain ⟨V27, v28, e29, h⟩ := bd_some h
  refine kcX10_takesBack fX10_first_75 (hr0).1 rfl (q_X10_takesBack (hr0) e29) (by decide) ?_
  refine t_l fX10_first_78 rfl rfl rfl rfl ?_
  refine k9_gi fX10_first_79 (hr0).1 kg_10_61 ?_
  refine t_s fX10_first_82 rfl rfl rfl ?_
  obtain ⟨g31, h⟩ := gd_some h
  refine k9_ic_ne fX10_first_83 rfl g31 ⟨by decide, by decide⟩ (fun c30 => ?_) (fun c30 => ?_)
  · replace h := ite_f (c30) h
    refine t_l fX10_first_90 rfl rfl rfl rfl ?_
    obtain ⟨g33, h⟩ := gd_some h
    refine k9_if_ne fX10_first_91 rfl g33 (fun c32 => ?_) (fun c32 => ?_)
    · replace h := ite_f (c32) h
      refine t_l fX10_first_98 rfl rfl rfl rfl ?_
      refine t_s fX10_first_99 rfl rfl rfl ?_
      refine k9_ic_ne fX10_first_100 rfl g33 ⟨by decide, by decide⟩ (fun c34 => ?_) (fun c34 => ?_)
      · replace h := ite_f (c34) h
        refine t_l fX10_first_110 rfl rfl rfl rfl ?_
        refine k9_gi fX10_first_111 (hr0).1 kg_10_62 ?_
        refine t_ret fX10_first_114 rX10_first ?_
        exact qf_i h
      · replace h := ite_t (Classical.not_not.mp c34) h
        refine t_l fX10_first_103 rfl rfl rfl rfl ?_
        refine k9_gi fX10_first_104 (hr0).1 kg_10_61 ?_
        refine k9_goto fX10_first_107 rfl ?_
        refine t_ret fX10_first_114 rX10_first ?_
        exact qf_i h
    · replace h := ite_t (Classical.not_not.mp c32) h
      refine t_l fX10_first_94 rfl rfl rfl rfl ?_
      refine k9_goto fX10_first_95 rfl ?_
      refine t_ret fX10_first_114 rX10_first ?_
      exact qf_i h
  · replace h := ite_t (Classical.not_not.mp c30) h
    refine t_s fX10_first_86 rfl rfl rfl ?_
    refine k9_goto fX10_first_87 rfl ?_
    refine t_ret fX10_first_114 rX10_first ?_
    exact qf_i h

theorem q_X10_first {X : mX} {n z : Nat} {G : mG} {r0 : Nat} (hr0 : is10 G r0) {x1 : Int} {V V' : mV} {v : Int} (h : F_X10_first G r0 x1 V = some (V', v)) : Rn X (7) 229 [.ref r0, .int (iI x1)] n z G V n z G V' (some (.int (iI v))) := by
  refine qi_toR (v := v) (L := [some (.ref r0), some (.int (iI x1)), none]) rfl ?_
  unfold F_X10_first at h
  refine t_l fX10_first_0 rfl rfl rfl rfl ?_
  obtain ⟨g1, h⟩ := gd_some h
  refine k9_i2l fX10_first_1 g1 ?_
  refine t_s fX10_first_2 rfl rfl rfl ?_
  refine t_s fX10_first_3 rfl rfl rfl ?_
  obtain ⟨V2, v3, e4, h⟩ := bd_some h
  refine kcX10_isIn fX10_first_6 rfl (q_X10_isIn  e4) (by decide) ?_
  obtain ⟨g6, h⟩ := gd_some h
  refine k9_if_ne fX10_first_9 rfl g6 (fun c5 => ?_) (fun c5 => ?_)
  · replace h := ite_f (c5) h
    refine t_l fX10_first_14 rfl rfl rfl rfl ?_
    obtain ⟨V7, v8, e9, h⟩ := bd_some h
    refine kcX10_putsAside fX10_first_15 (hr0).1 rfl (q_X10_putsAside (hr0) e9) (by decide) ?_
    refine t_l fX10_first_18 rfl rfl rfl rfl ?_
    obtain ⟨V10, v11, e12, h⟩ := bd_some h
    refine kcX10_clearsDried fX10_first_19 (hr0).1 rfl (q_X10_clearsDried (hr0) e12) (by decide) ?_
    obtain ⟨V22, u23, e24, h⟩ := bd_some h
    refine tl_X10_first_22 hr0  (fun e25 j2 => ?_) e24
    exact tj_X10_first_J67 hr0   h
  · replace h := ite_t (Classical.not_not.mp c5) h
    refine t_s fX10_first_12 rfl rfl rfl ?_
    refine t_ret fX10_first_13 rX10_first ?_
    exact qf_i h

theorem tj_X10_doable_J38_6 {X : mX} {n z : Nat} {G : mG} {r0 : Nat} (hr0 : is10 G r0) {x1 x2 x3 x4 x5 s1 s2 : Int} {V V' : mV} {q : Nat × Int × Int} {Q : Nat → Nat → mG → mV → Option Value → Prop} (h0 : q.1 = 0 → T X (4) 230 6 [some (.ref r0), some (.int (iI x1)), some (.int (iI x2)), some (.int (iI x3)), some (.int (iI q.2.1)), some (.int (iI q.2.2))] [] n z G V' Q) (h1 : q.1 = 1 → T X (4) 230 76 [some (.ref r0), some (.int (iI x1)), some (.int (iI x2)), some (.int (iI x3)), some (.int (iI q.2.1)), some (.int (iI q.2.2))] [] n z G V' Q) (h : F_X10_doable_J38_6 G r0 x1 x2 x3 x4 x5 s1 s2 V = some (V', q)) : T X (4) 230 38 [some (.ref r0), some (.int (iI x1)), some (.int (iI x2)), some (.int (iI x3)), some (.int (iI x4)), some (.int (iI x5))] [.int (iI s2), .int (iI s1), .ref r0] n z G V Q := by
  unfold F_X10_doable_J38_6 at h
  refine t_l fX10_doable_38 rfl rfl rfl rfl ?_
  refine t_l fX10_doable_39 rfl rfl rfl rfl ?_
  refine t_s fX10_doable_41 rfl rfl rfl ?_
  obtain ⟨V16, v17, e18, h⟩ := bd_some h
  refine kcX10_dutyOf fX10_doable_42 (hr0).1 rfl (q_X10_dutyOf (hr0) e18) (by decide) ?_
  refine t_l fX10_doable_45 rfl rfl rfl rfl ?_
  refine t_l fX10_doable_46 rfl rfl rfl rfl ?_
  refine t_s fX10_doable_48 rfl rfl rfl ?_
  obtain ⟨V19, v20, e21, h⟩ := bd_some h
  refine kcX10_dutyOf fX10_doable_49 (hr0).1 rfl (q_X10_dutyOf (hr0) e21) (by decide) ?_
  refine t_l fX10_doable_52 rfl rfl rfl rfl ?_
  refine k9_gr fX10_doable_53 (hr0).1 kg_10_49 (s10_49r hr0) ?_
  refine t_s fX10_doable_56 rfl rfl rfl ?_
  refine k9_ia fX10_doable_57 (s10_49s hr0) (by decide) (by decide) (by decide) ?_
  refine t_s fX10_doable_58 rfl rfl rfl ?_
  obtain ⟨g22, h⟩ := gd_some h
  refine k9_idiv fX10_doable_60 g22 ⟨by decide, by decide⟩ (by decide) ?_
  obtain ⟨V23, v24, e25, h⟩ := bd_some h
  refine kcX10_canBy fX10_doable_61 (hr0).1 rfl (q_X10_canBy (hr0) e25) (by decide) ?_
  obtain ⟨g27, h⟩ := gd_some h
  refine k9_if_eq fX10_doable_64 rfl g27 (fun c26 => ?_) (fun c26 => ?_)
  · replace h := ite_t (c26) h
    replace h := lt_some h
    refine k9_iinc fX10_doable_70 rfl (Nat.le_of_ble_eq_true rfl) rfl ?_
    refine k9_goto fX10_doable_73 rfl ?_
    cases h
    exact h0 rfl
  · replace h := ite_f (c26) h
    replace h := lt_some h
    refine k9_iinc fX10_doable_67 rfl (Nat.le_of_ble_eq_true rfl) rfl ?_
    replace h := lt_some h
    refine k9_iinc fX10_doable_70 rfl (Nat.le_of_ble_eq_true rfl) rfl ?_
    refine k9_goto fX10_doable_73 rfl ?_
    cases h
    exact h0 rfl

theorem tb_X10_doable_6 {X : mX} {n z : Nat} {G : mG} {r0 : Nat} (hr0 : is10 G r0) {x1 x2 x3 x4 x5 : Int} {V V' : mV} {q : Nat × Int × Int} {Q : Nat → Nat → mG → mV → Option Value → Prop} (h0 : q.1 = 0 → T X (4) 230 6 [some (.ref r0), some (.int (iI x1)), some (.int (iI x2)), some (.int (iI x3)), some (.int (iI q.2.1)), some (.int (iI q.2.2))] [] n z G V' Q) (h1 : q.1 = 1 → T X (4) 230 76 [some (.ref r0), some (.int (iI x1)), some (.int (iI x2)), some (.int (iI x3)), some (.int (iI q.2.1)), some (.int (iI q.2.2))] [] n z G V' Q) (h : B_X10_doable_6 G r0 x1 x2 x3 x4 x5 V = some (V', q)) : T X (4) 230 6 [some (.ref r0), some (.int (iI x1)), some (.int (iI x2)), some (.int (iI x3)), some (.int (iI x4)), some (.int (iI x5))] [] n z G V Q := by
  unfold B_X10_doable_6 at h
  refine t_l fX10_doable_6 rfl rfl rfl rfl ?_
  refine t_l fX10_doable_8 rfl rfl rfl rfl ?_
  obtain ⟨V1, v2, e3, h⟩ := bd_some h
  refine kcX10_dutyMany fX10_doable_9 (hr0).1 rfl (q_X10_dutyMany (hr0) e3) (by decide) ?_
  obtain ⟨g5, h⟩ := gd_some h
  obtain ⟨g6, h⟩ := gd_some h
  refine k9_ic_ge fX10_doable_12 rfl g5 g6 (fun c4 => ?_) (fun c4 => ?_)
  · replace h := ite_t (c4) h
    cases h
    exact h1 rfl
  · replace h := ite_f (c4) h
    refine t_l fX10_doable_15 rfl rfl rfl rfl ?_
    refine t_l fX10_doable_16 rfl rfl rfl rfl ?_
    refine t_s fX10_doable_18 rfl rfl rfl ?_
    obtain ⟨V7, v8, e9, h⟩ := bd_some h
    refine kcX10_dutyOf fX10_doable_19 (hr0).1 rfl (q_X10_dutyOf (hr0) e9) (by decide) ?_
    refine t_l fX10_doable_22 rfl rfl rfl rfl ?_
    obtain ⟨g11, h⟩ := gd_some h
    obtain ⟨g12, h⟩ := gd_some h
    refine k9_ic_ne fX10_doable_23 rfl g11 g12 (fun c10 => ?_) (fun c10 => ?_)
    · replace h := ite_f (c10) h
      replace h := lt_some h
      refine k9_iinc fX10_doable_70 rfl (Nat.le_of_ble_eq_true rfl) rfl ?_
      refine k9_goto fX10_doable_73 rfl ?_
      cases h
      exact h0 rfl
    · replace h := ite_t (Classical.not_not.mp c10) h
      refine t_l fX10_doable_26 rfl rfl rfl rfl ?_
      refine t_l fX10_doable_27 rfl rfl rfl rfl ?_
      refine t_l fX10_doable_28 rfl rfl rfl rfl ?_
      refine t_l fX10_doable_29 rfl rfl rfl rfl ?_
      obtain ⟨g15, h⟩ := gd_some h
      refine k9_ic_ne fX10_doable_30 rfl g15 g12 (fun c14 => ?_) (fun c14 => ?_)
      · replace h := ite_f (c14) h
        refine t_s fX10_doable_37 rfl rfl rfl ?_
        exact tj_X10_doable_J38_6 hr0  h0 h1 h
      · replace h := ite_t (Classical.not_not.mp c14) h
        refine t_s fX10_doable_33 rfl rfl rfl ?_
        refine k9_goto fX10_doable_34 rfl ?_
        exact tj_X10_doable_J38_6 hr0  h0 h1 h

theorem tl_X10_doable_6 {X : mX} {n z : Nat} {G : mG} {r0 : Nat} (hr0 : is10 G r0) {x1 x2 x3 x4 x5 : Int} {V V' : mV} {fu : Nat} {q : Nat × Int × Int} {Q : Nat → Nat → mG → mV → Option Value → Prop} (k1 : q.1 = 1 → T X (4) 230 76 [some (.ref r0), some (.int (iI x1)), some (.int (iI x2)), some (.int (iI x3)), some (.int (iI q.2.1)), some (.int (iI q.2.2))] [] n z G V' Q) (h : lp (fun (s : Int × Int) V => B_X10_doable_6 G r0 x1 x2 x3 s.1 s.2 V) fu (x4, x5) V = some (V', q)) : T X (4) 230 6 [some (.ref r0), some (.int (iI x1)), some (.int (iI x2)), some (.int (iI x3)), some (.int (iI x4)), some (.int (iI x5))] [] n z G V Q :=
  lp_go (P0 := fun s V => T X (4) 230 6 [some (.ref r0), some (.int (iI x1)), some (.int (iI x2)), some (.int (iI x3)), some (.int (iI s.1)), some (.int (iI s.2))] [] n z G V Q) (PE := fun t s V => (t = 1 → T X (4) 230 76 [some (.ref r0), some (.int (iI x1)), some (.int (iI x2)), some (.int (iI x3)), some (.int (iI s.1)), some (.int (iI s.2))] [] n z G V Q)) (fun s V V' q hb h0 h1 => tb_X10_doable_6 hr0  h0 (fun e => (h1 (by omega)) e) hb) fu (x4, x5) V V' q h k1

theorem q_X10_doable {X : mX} {n z : Nat} {G : mG} {r0 : Nat} (hr0 : is10 G r0) {x1 x2 x3 : Int} {V V' : mV} {v : Int} (h : F_X10_doable G r0 x1 x2 x3 V = some (V', v)) : Rn X (4) 230 [.ref r0, .int (iI x1), .int (iI x2), .int (iI x3)] n z G V n z G V' (some (.int (iI v))) := by
  refine qi_toR (v := v) (L := [some (.ref r0), some (.int (iI x1)), some (.int (iI x2)), some (.int (iI x3)), none, none]) rfl ?_
  unfold F_X10_doable at h
  refine t_s fX10_doable_0 rfl rfl rfl ?_
  refine t_l fX10_doable_1 rfl rfl rfl rfl ?_
  refine t_s fX10_doable_3 rfl rfl rfl ?_
  refine t_l fX10_doable_4 rfl rfl rfl rfl ?_
  obtain ⟨V31, u32, e33, h⟩ := bd_some h
  refine tl_X10_doable_6 hr0  (fun e34 => ?_) e33
  refine t_l fX10_doable_76 rfl rfl rfl rfl ?_
  refine t_ret fX10_doable_78 rX10_doable ?_
  exact qf_i h

theorem tb_X10_best_28 {X : mX} {n z : Nat} {G : mG} {r0 : Nat} (hr0 : is10 G r0) {x1 x2 x3 x4 x5 : Int} {j6 : Option Value} {V V' : mV} {q : Nat × Int × Int × Int} {Q : Nat → Nat → mG → mV → Option Value → Prop} (h0 : q.1 = 0 → ∀ j6 : Option Value, T X (5) 231 28 [some (.ref r0), some (.int (iI x1)), some (.int (iI x2)), some (.int (iI q.2.1)), some (.int (iI q.2.2.1)), some (.int (iI q.2.2.2)), j6] [] n z G V' Q) (h1 : q.1 = 1 → ∀ j6 : Option Value, T X (5) 231 85 [some (.ref r0), some (.int (iI x1)), some (.int (iI x2)), some (.int (iI q.2.1)), some (.int (iI q.2.2.1)), some (.int (iI q.2.2.2)), j6] [] n z G V' Q) (h : B_X10_best_28 G r0 x1 x2 x3 x4 x5 V = some (V', q)) : T X (5) 231 28 [some (.ref r0), some (.int (iI x1)), some (.int (iI x2)), some (.int (iI x3)), some (.int (iI x4)), some (.int (iI x5)), j6] [] n z G V Q := by
  unfold B_X10_best_28 at h
  refine t_l fX10_best_28 rfl rfl rfl rfl ?_
  refine t_l fX10_best_30 rfl rfl rfl rfl ?_
  obtain ⟨V12, v13, e14, h⟩ := bd_some h
  refine kcX10_peopleMany fX10_best_31 (hr0).1 rfl (q_X10_peopleMany (hr0) e14) (by decide) ?_
  obtain ⟨g16, h⟩ := gd_some h
  obtain ⟨g17, h⟩ := gd_some h
  refine k9_ic_ge fX10_best_34 rfl g16 g17 (fun c15 => ?_) (fun c15 => ?_)
  · replace h := ite_t (c15) h
    cases h
    exact h1 rfl _
  · replace h := ite_f (c15) h
    refine t_l fX10_best_37 rfl rfl rfl rfl ?_
    refine t_l fX10_best_39 rfl rfl rfl rfl ?_
    obtain ⟨g19, h⟩ := gd_some h
    refine k9_ic_ne fX10_best_40 rfl g16 g19 (fun c18 => ?_) (fun c18 => ?_)
    · replace h := ite_f (c18) h
      refine t_l fX10_best_46 rfl rfl rfl rfl ?_
      refine t_l fX10_best_47 rfl rfl rfl rfl ?_
      refine t_l fX10_best_49 rfl rfl rfl rfl ?_
      refine t_l fX10_best_50 rfl rfl rfl rfl ?_
      refine t_l fX10_best_51 rfl rfl rfl rfl ?_
      refine t_l fX10_best_53 rfl rfl rfl rfl ?_
      obtain ⟨V20, v21, e22, h⟩ := bd_some h
      refine kcX10_pointsOf fX10_best_54 (hr0).1 rfl (q_X10_pointsOf (hr0) e22) (by decide) ?_
      obtain ⟨V23, v24, e25, h⟩ := bd_some h
      refine kcX10_doable fX10_best_57 (hr0).1 rfl (q_X10_doable (hr0) e25) (by decide) ?_
      refine t_l fX10_best_60 rfl rfl rfl rfl ?_
      refine t_l fX10_best_62 rfl rfl rfl rfl ?_
      refine t_l fX10_best_64 rfl rfl rfl rfl ?_
      obtain ⟨g27, h⟩ := gd_some h
      obtain ⟨g28, h⟩ := gd_some h
      refine k9_ic_gt fX10_best_66 rfl g27 g28 (fun c26 => ?_) (fun c26 => ?_)
      · replace h := ite_t (c26) h
        refine t_l fX10_best_72 rfl rfl rfl rfl ?_
        refine t_l fX10_best_74 rfl rfl rfl rfl ?_
        refine t_l fX10_best_76 rfl rfl rfl rfl ?_
        refine t_l fX10_best_78 rfl rfl rfl rfl ?_
        replace h := lt_some h
        refine k9_iinc fX10_best_79 rfl (Nat.le_of_ble_eq_true rfl) rfl ?_
        refine k9_goto fX10_best_82 rfl ?_
        cases h
        exact h0 rfl _
      · replace h := ite_f (c26) h
        refine k9_goto fX10_best_69 rfl ?_
        replace h := lt_some h
        refine k9_iinc fX10_best_79 rfl (Nat.le_of_ble_eq_true rfl) rfl ?_
        refine k9_goto fX10_best_82 rfl ?_
        cases h
        exact h0 rfl _
    · replace h := ite_t (Classical.not_not.mp c18) h
      refine k9_goto fX10_best_43 rfl ?_
      replace h := lt_some h
      refine k9_iinc fX10_best_79 rfl (Nat.le_of_ble_eq_true rfl) rfl ?_
      refine k9_goto fX10_best_82 rfl ?_
      cases h
      exact h0 rfl _

theorem tl_X10_best_28 {X : mX} {n z : Nat} {G : mG} {r0 : Nat} (hr0 : is10 G r0) {x1 x2 x3 x4 x5 : Int} {j6 : Option Value} {V V' : mV} {fu : Nat} {q : Nat × Int × Int × Int} {Q : Nat → Nat → mG → mV → Option Value → Prop} (k1 : q.1 = 1 → ∀ j6 : Option Value, T X (5) 231 85 [some (.ref r0), some (.int (iI x1)), some (.int (iI x2)), some (.int (iI q.2.1)), some (.int (iI q.2.2.1)), some (.int (iI q.2.2.2)), j6] [] n z G V' Q) (h : lp (fun (s : Int × Int × Int) V => B_X10_best_28 G r0 x1 x2 s.1 s.2.1 s.2.2 V) fu (x3, x4, x5) V = some (V', q)) : T X (5) 231 28 [some (.ref r0), some (.int (iI x1)), some (.int (iI x2)), some (.int (iI x3)), some (.int (iI x4)), some (.int (iI x5)), j6] [] n z G V Q :=
  lp_go (P0 := fun s V => ∀ j6 : Option Value, T X (5) 231 28 [some (.ref r0), some (.int (iI x1)), some (.int (iI x2)), some (.int (iI s.1)), some (.int (iI s.2.1)), some (.int (iI s.2.2)), j6] [] n z G V Q) (PE := fun t s V => (t = 1 → ∀ j6 : Option Value, T X (5) 231 85 [some (.ref r0), some (.int (iI x1)), some (.int (iI x2)), some (.int (iI s.1)), some (.int (iI s.2.1)), some (.int (iI s.2.2)), j6] [] n z G V Q)) (fun s V V' q hb h0 h1 => fun _ => tb_X10_best_28 hr0  h0 (fun e => (h1 (by omega)) e) hb) fu (x3, x4, x5) V V' q h k1 _

theorem q_X10_best {X : mX} {n z : Nat} {G : mG} {r0 : Nat} (hr0 : is10 G r0) {x1 x2 : Int} {V V' : mV} {v : Int} (h : F_X10_best G r0 x1 x2 V = some (V', v)) : Rn X (5) 231 [.ref r0, .int (iI x1), .int (iI x2)] n z G V n z G V' (some (.int (iI v))) := by
  refine qi_toR (v := v) (L := [some (.ref r0), some (.int (iI x1)), some (.int (iI x2)), none, none, none, none]) rfl ?_
  unfold F_X10_best at h
  refine t_l fX10_best_0 rfl rfl rfl rfl ?_
  refine t_l fX10_best_1 rfl rfl rfl rfl ?_
  obtain ⟨V1, v2, e3, h⟩ := bd_some h
  refine kcX10_isPerson fX10_best_2 (hr0).1 rfl (q_X10_isPerson (hr0) e3) (by decide) ?_
  obtain ⟨g5, h⟩ := gd_some h
  refine k9_if_eq fX10_best_5 rfl g5 (fun c4 => ?_) (fun c4 => ?_)
  · replace h := ite_t (c4) h
    refine t_s fX10_best_18 rfl rfl rfl ?_
    refine t_ret fX10_best_19 rX10_best ?_
    exact qf_i h
  · replace h := ite_f (c4) h
    refine t_l fX10_best_8 rfl rfl rfl rfl ?_
    obtain ⟨g6, h⟩ := gd_some h
    refine k9_i2l fX10_best_9 g6 ?_
    refine t_s fX10_best_10 rfl rfl rfl ?_
    refine t_s fX10_best_11 rfl rfl rfl ?_
    obtain ⟨V7, v8, e9, h⟩ := bd_some h
    refine kcX10_isIn fX10_best_12 rfl (q_X10_isIn  e9) (by decide) ?_
    obtain ⟨g11, h⟩ := gd_some h
    refine k9_if_ne fX10_best_15 rfl g11 (fun c10 => ?_) (fun c10 => ?_)
    · replace h := ite_f (c10) h
      refine t_s fX10_best_20 rfl rfl rfl ?_
      refine t_l fX10_best_21 rfl rfl rfl rfl ?_
      refine t_s fX10_best_22 rfl rfl rfl ?_
      refine t_l fX10_best_23 rfl rfl rfl rfl ?_
      refine t_s fX10_best_25 rfl rfl rfl ?_
      refine t_l fX10_best_26 rfl rfl rfl rfl ?_
      obtain ⟨V32, u33, e34, h⟩ := bd_some h
      refine tl_X10_best_28 hr0  (fun e35 j6 => ?_) e34
      refine t_l fX10_best_85 rfl rfl rfl rfl ?_
      refine k9_if_ne fX10_best_86 rfl g6 (fun c36 => ?_) (fun c36 => ?_)
      · replace h := ite_f (c36) h
        refine t_l fX10_best_93 rfl rfl rfl rfl ?_
        refine t_ret fX10_best_95 rX10_best ?_
        exact qf_i h
      · replace h := ite_t (Classical.not_not.mp c36) h
        refine t_l fX10_best_89 rfl rfl rfl rfl ?_
        refine k9_goto fX10_best_90 rfl ?_
        refine t_ret fX10_best_95 rX10_best ?_
        exact qf_i h
    · replace h := ite_t (Classical.not_not.mp c10) h
      refine t_s fX10_best_18 rfl rfl rfl ?_
      refine t_ret fX10_best_19 rX10_best ?_
      exact qf_i h

theorem tb_X10_study_33 {X : mX} {n z : Nat} {G : mG} {r0 : Nat} (hr0 : is10 G r0) {x1 x2 x3 x4 : Int} {V V' : mV} {q : Nat × Int × Int} {Q : Nat → Nat → mG → mV → Option Value → Prop} (h0 : q.1 = 0 → T X (5) 232 33 [some (.ref r0), some (.int (iI x1)), some (.int (iI x2)), some (.int (iI q.2.1)), some (.int (iI q.2.2))] [] n z G V' Q) (h1 : q.1 = 1 → T X (5) 232 55 [some (.ref r0), some (.int (iI x1)), some (.int (iI x2)), some (.int (iI q.2.1)), some (.int (iI q.2.2))] [] n z G V' Q) (h2 : q.1 = 2 → T X (5) 232 91 [some (.ref r0), some (.int (iI x1)), some (.int (iI x2)), some (.int (iI q.2.1)), some (.int (iI q.2.2))] [] n z G V' Q) (h : B_X10_study_33 G r0 x1 x2 x3 x4 V = some (V', q)) : T X (5) 232 33 [some (.ref r0), some (.int (iI x1)), some (.int (iI x2)), some (.int (iI x3)), some (.int (iI x4))] [] n z G V Q := by
  unfold B_X10_study_33 at h
  refine t_l fX10_study_33 rfl rfl rfl rfl ?_
  refine t_s fX10_study_35 rfl rfl rfl ?_
  obtain ⟨g18, h⟩ := gd_some h
  refine k9_ic_gt fX10_study_37 rfl g18 ⟨by decide, by decide⟩ (fun c17 => ?_) (fun c17 => ?_)
  · replace h := ite_t (c17) h
    cases h
    exact h2 rfl
  · replace h := ite_f (c17) h
    refine t_l fX10_study_40 rfl rfl rfl rfl ?_
    refine t_l fX10_study_41 rfl rfl rfl rfl ?_
    refine t_l fX10_study_42 rfl rfl rfl rfl ?_
    refine t_l fX10_study_43 rfl rfl rfl rfl ?_
    obtain ⟨V19, v20, e21, h⟩ := bd_some h
    refine kcX10_doable fX10_study_44 (hr0).1 rfl (q_X10_doable (hr0) e21) (by decide) ?_
    refine t_l fX10_study_47 rfl rfl rfl rfl ?_
    refine t_l fX10_study_48 rfl rfl rfl rfl ?_
    obtain ⟨V22, v23, e24, h⟩ := bd_some h
    refine kcX10_dutiesOf fX10_study_49 (hr0).1 rfl (q_X10_dutiesOf (hr0) e24) (by decide) ?_
    obtain ⟨g26, h⟩ := gd_some h
    obtain ⟨g27, h⟩ := gd_some h
    refine k9_ic_ne fX10_study_52 rfl g26 g27 (fun c25 => ?_) (fun c25 => ?_)
    · replace h := ite_f (c25) h
      refine t_l fX10_study_58 rfl rfl rfl rfl ?_
      refine t_s fX10_study_59 rfl rfl rfl ?_
      refine t_l fX10_study_60 rfl rfl rfl rfl ?_
      refine t_l fX10_study_61 rfl rfl rfl rfl ?_
      refine t_l fX10_study_62 rfl rfl rfl rfl ?_
      refine t_l fX10_study_63 rfl rfl rfl rfl ?_
      refine k9_gr fX10_study_64 (hr0).1 kg_10_49 (s10_49r hr0) ?_
      refine t_s fX10_study_67 rfl rfl rfl ?_
      refine k9_ia fX10_study_68 (s10_49s hr0) (by decide) (by decide) (by decide) ?_
      refine t_s fX10_study_69 rfl rfl rfl ?_
      obtain ⟨g28, h⟩ := gd_some h
      refine k9_irem fX10_study_71 g28 ⟨by decide, by decide⟩ (by decide) ?_
      refine t_l fX10_study_72 rfl rfl rfl rfl ?_
      refine k9_gr fX10_study_73 (hr0).1 kg_10_49 (s10_49r hr0) ?_
      refine t_s fX10_study_76 rfl rfl rfl ?_
      refine k9_ia fX10_study_77 (s10_49s hr0) (by decide) (by decide) (by decide) ?_
      refine t_s fX10_study_78 rfl rfl rfl ?_
      refine k9_idiv fX10_study_80 g28 ⟨by decide, by decide⟩ (by decide) ?_
      obtain ⟨V29, v30, e31, h⟩ := bd_some h
      refine kcX10_made fX10_study_81 (hr0).1 rfl (q_X10_made (hr0) e31) (by decide) ?_
      refine t_l fX10_study_84 rfl rfl rfl rfl ?_
      replace h := lt_some h
      refine k9_iinc fX10_study_85 rfl (Nat.le_of_ble_eq_true rfl) rfl ?_
      refine k9_goto fX10_study_88 rfl ?_
      cases h
      exact h0 rfl
    · replace h := ite_t (Classical.not_not.mp c25) h
      cases h
      exact h1 rfl

theorem tl_X10_study_33 {X : mX} {n z : Nat} {G : mG} {r0 : Nat} (hr0 : is10 G r0) {x1 x2 x3 x4 : Int} {V V' : mV} {fu : Nat} {q : Nat × Int × Int} {Q : Nat → Nat → mG → mV → Option Value → Prop} (k1 : q.1 = 1 → T X (5) 232 55 [some (.ref r0), some (.int (iI x1)), some (.int (iI x2)), some (.int (iI q.2.1)), some (.int (iI q.2.2))] [] n z G V' Q) (k2 : q.1 = 2 → T X (5) 232 91 [some (.ref r0), some (.int (iI x1)), some (.int (iI x2)), some (.int (iI q.2.1)), some (.int (iI q.2.2))] [] n z G V' Q) (h : lp (fun (s : Int × Int) V => B_X10_study_33 G r0 x1 x2 s.1 s.2 V) fu (x3, x4) V = some (V', q)) : T X (5) 232 33 [some (.ref r0), some (.int (iI x1)), some (.int (iI x2)), some (.int (iI x3)), some (.int (iI x4))] [] n z G V Q :=
  lp_go (P0 := fun s V => T X (5) 232 33 [some (.ref r0), some (.int (iI x1)), some (.int (iI x2)), some (.int (iI s.1)), some (.int (iI s.2))] [] n z G V Q) (PE := fun t s V => (t = 1 → T X (5) 232 55 [some (.ref r0), some (.int (iI x1)), some (.int (iI x2)), some (.int (iI s.1)), some (.int (iI s.2))] [] n z G V Q) ∧ (t = 2 → T X (5) 232 91 [some (.ref r0), some (.int (iI x1)), some (.int (iI x2)), some (.int (iI s.1)), some (.int (iI s.2))] [] n z G V Q)) (fun s V V' q hb h0 h1 => tb_X10_study_33 hr0  h0 (fun e => (h1 (by omega)).1 e) (fun e => (h1 (by omega)).2 e) hb) fu (x3, x4) V V' q h ⟨k1, k2⟩

theorem q_X10_study {X : mX} {n z : Nat} {G : mG} {r0 : Nat} (hr0 : is10 G r0) {x1 x2 : Int} {V V' : mV} {v : Int} (h : F_X10_study G r0 x1 x2 V = some (V', v)) : Rn X (5) 232 [.ref r0, .int (iI x1), .int (iI x2)] n z G V n z G V' (some (.int (iI v))) := by
  refine qi_toR (v := v) (L := [some (.ref r0), some (.int (iI x1)), some (.int (iI x2)), none, none]) rfl ?_
  unfold F_X10_study at h
  refine t_l fX10_study_0 rfl rfl rfl rfl ?_
  refine t_l fX10_study_1 rfl rfl rfl rfl ?_
  obtain ⟨V1, v2, e3, h⟩ := bd_some h
  refine kcX10_isPerson fX10_study_2 (hr0).1 rfl (q_X10_isPerson (hr0) e3) (by decide) ?_
  obtain ⟨g5, h⟩ := gd_some h
  refine k9_if_eq fX10_study_5 rfl g5 (fun c4 => ?_) (fun c4 => ?_)
  · replace h := ite_t (c4) h
    refine t_s fX10_study_21 rfl rfl rfl ?_
    refine t_ret fX10_study_22 rX10_study ?_
    exact qf_i h
  · replace h := ite_f (c4) h
    refine t_l fX10_study_8 rfl rfl rfl rfl ?_
    refine t_l fX10_study_9 rfl rfl rfl rfl ?_
    obtain ⟨V6, v7, e8, h⟩ := bd_some h
    refine kcX10_isPerson fX10_study_10 (hr0).1 rfl (q_X10_isPerson (hr0) e8) (by decide) ?_
    obtain ⟨g10, h⟩ := gd_some h
    refine k9_if_eq fX10_study_13 rfl g10 (fun c9 => ?_) (fun c9 => ?_)
    · replace h := ite_t (c9) h
      refine t_s fX10_study_21 rfl rfl rfl ?_
      refine t_ret fX10_study_22 rX10_study ?_
      exact qf_i h
    · replace h := ite_f (c9) h
      refine t_l fX10_study_16 rfl rfl rfl rfl ?_
      refine t_l fX10_study_17 rfl rfl rfl rfl ?_
      obtain ⟨g12, h⟩ := gd_some h
      obtain ⟨g13, h⟩ := gd_some h
      refine k9_ic_ne fX10_study_18 rfl g12 g13 (fun c11 => ?_) (fun c11 => ?_)
      · replace h := ite_f (c11) h
        refine t_l fX10_study_23 rfl rfl rfl rfl ?_
        refine t_l fX10_study_24 rfl rfl rfl rfl ?_
        refine t_l fX10_study_25 rfl rfl rfl rfl ?_
        obtain ⟨V14, v15, e16, h⟩ := bd_some h
        refine kcX10_pointsOf fX10_study_26 (hr0).1 rfl (q_X10_pointsOf (hr0) e16) (by decide) ?_
        refine t_l fX10_study_29 rfl rfl rfl rfl ?_
        refine t_s fX10_study_30 rfl rfl rfl ?_
        refine t_l fX10_study_31 rfl rfl rfl rfl ?_
        obtain ⟨V33, u34, e35, h⟩ := bd_some h
        refine tl_X10_study_33 hr0  (fun e36 => ?_) (fun e36 => ?_) e35
        · replace h := ite_t e36 h
          refine t_l fX10_study_55 rfl rfl rfl rfl ?_
          refine t_ret fX10_study_57 rX10_study ?_
          exact qf_i h
        · replace h := ite_f (by omega) h
          refine t_s fX10_study_91 rfl rfl rfl ?_
          refine t_ret fX10_study_92 rX10_study ?_
          exact qf_i h
      · replace h := ite_t (Classical.not_not.mp c11) h
        refine t_s fX10_study_21 rfl rfl rfl ?_
        refine t_ret fX10_study_22 rX10_study ?_
        exact qf_i h

theorem tb_X10_laysChange_14 {X : mX} {n z : Nat} {G : mG} {r0 : Nat} (hr0 : is10 G r0) {x1 x2 x3 : Int} {j4 j5 j6 : Option Value} {V V' : mV} {q : Nat × Int} {Q : Nat → Nat → mG → mV → Option Value → Prop} (h0 : q.1 = 0 → ∀ j4 j5 j6 : Option Value, T X (5) 233 14 [some (.ref r0), some (.int (iI x1)), some (.int (iI x2)), some (.int (iI q.2)), j4, j5, j6] [] n z G V' Q) (h1 : q.1 = 1 → ∀ j4 j5 j6 : Option Value, T X (5) 233 65 [some (.ref r0), some (.int (iI x1)), some (.int (iI x2)), some (.int (iI q.2)), j4, j5, j6] [] n z G V' Q) (h : B_X10_laysChange_14 G r0 x1 x2 x3 V = some (V', q)) : T X (5) 233 14 [some (.ref r0), some (.int (iI x1)), some (.int (iI x2)), some (.int (iI x3)), j4, j5, j6] [] n z G V Q := by
  unfold B_X10_laysChange_14 at h
  refine t_l fX10_laysChange_14 rfl rfl rfl rfl ?_
  refine t_l fX10_laysChange_15 rfl rfl rfl rfl ?_
  obtain ⟨g8, h⟩ := gd_some h
  obtain ⟨g9, h⟩ := gd_some h
  refine k9_ic_ge fX10_laysChange_16 rfl g8 g9 (fun c7 => ?_) (fun c7 => ?_)
  · replace h := ite_t (c7) h
    cases h
    exact h1 rfl _ _ _
  · replace h := ite_f (c7) h
    refine t_l fX10_laysChange_19 rfl rfl rfl rfl ?_
    refine k9_gr fX10_laysChange_20 (hr0).1 kg_10_67 (s10_67r hr0) ?_
    refine t_s fX10_laysChange_23 rfl rfl rfl ?_
    refine t_l fX10_laysChange_25 rfl rfl rfl rfl ?_
    refine k9_imul fX10_laysChange_26 ?_
    refine t_l fX10_laysChange_27 rfl rfl rfl rfl ?_
    refine k9_iadd fX10_laysChange_28 ?_
    refine t_l fX10_laysChange_29 rfl rfl rfl rfl ?_
    refine t_l fX10_laysChange_30 rfl rfl rfl rfl ?_
    obtain ⟨g11, h⟩ := gd_some h
    refine k9_ic_ne fX10_laysChange_31 rfl g8 g11 (fun c10 => ?_) (fun c10 => ?_)
    · replace h := ite_f (c10) h
      refine t_l fX10_laysChange_40 rfl rfl rfl rfl ?_
      refine t_l fX10_laysChange_41 rfl rfl rfl rfl ?_
      obtain ⟨V12, v13, e14, h⟩ := bd_some h
      refine kcX10_dutiesOf fX10_laysChange_42 (hr0).1 rfl (q_X10_dutiesOf (hr0) e14) (by decide) ?_
      refine t_l fX10_laysChange_45 rfl rfl rfl rfl ?_
      refine t_l fX10_laysChange_46 rfl rfl rfl rfl ?_
      refine t_l fX10_laysChange_47 rfl rfl rfl rfl ?_
      refine t_l fX10_laysChange_48 rfl rfl rfl rfl ?_
      refine t_l fX10_laysChange_49 rfl rfl rfl rfl ?_
      refine t_l fX10_laysChange_50 rfl rfl rfl rfl ?_
      obtain ⟨V15, v16, e17, h⟩ := bd_some h
      refine kcX10_pointsOf fX10_laysChange_51 (hr0).1 rfl (q_X10_pointsOf (hr0) e17) (by decide) ?_
      obtain ⟨V18, v19, e20, h⟩ := bd_some h
      refine kcX10_doable fX10_laysChange_54 (hr0).1 rfl (q_X10_doable (hr0) e20) (by decide) ?_
      refine k9_isub fX10_laysChange_57 ?_
      obtain ⟨g21, h⟩ := gd_some h
      refine k9_is fX10_laysChange_58 (s10_67s hr0) g21.1 g21.2.1 g21.2.2 ?_
      replace h := lt_some h
      replace h := lt_some h
      refine k9_iinc fX10_laysChange_59 rfl (Nat.le_of_ble_eq_true rfl) rfl ?_
      refine k9_goto fX10_laysChange_62 rfl ?_
      cases h
      exact h0 rfl _ _ _
    · replace h := ite_t (Classical.not_not.mp c10) h
      refine t_s fX10_laysChange_34 rfl rfl rfl ?_
      refine k9_goto fX10_laysChange_37 rfl ?_
      obtain ⟨g24, h⟩ := gd_some h
      refine k9_is fX10_laysChange_58 (s10_67s hr0) g24.1 g24.2.1 g24.2.2 ?_
      replace h := lt_some h
      replace h := lt_some h
      refine k9_iinc fX10_laysChange_59 rfl (Nat.le_of_ble_eq_true rfl) rfl ?_
      refine k9_goto fX10_laysChange_62 rfl ?_
      cases h
      exact h0 rfl _ _ _

theorem tl_X10_laysChange_14 {X : mX} {n z : Nat} {G : mG} {r0 : Nat} (hr0 : is10 G r0) {x1 x2 x3 : Int} {j4 j5 j6 : Option Value} {V V' : mV} {fu : Nat} {q : Nat × Int} {Q : Nat → Nat → mG → mV → Option Value → Prop} (k1 : q.1 = 1 → ∀ j4 j5 j6 : Option Value, T X (5) 233 65 [some (.ref r0), some (.int (iI x1)), some (.int (iI x2)), some (.int (iI q.2)), j4, j5, j6] [] n z G V' Q) (h : lp (fun (s : Int) V => B_X10_laysChange_14 G r0 x1 x2 s V) fu x3 V = some (V', q)) : T X (5) 233 14 [some (.ref r0), some (.int (iI x1)), some (.int (iI x2)), some (.int (iI x3)), j4, j5, j6] [] n z G V Q :=
  lp_go (P0 := fun s V => ∀ j4 j5 j6 : Option Value, T X (5) 233 14 [some (.ref r0), some (.int (iI x1)), some (.int (iI x2)), some (.int (iI s)), j4, j5, j6] [] n z G V Q) (PE := fun t s V => (t = 1 → ∀ j4 j5 j6 : Option Value, T X (5) 233 65 [some (.ref r0), some (.int (iI x1)), some (.int (iI x2)), some (.int (iI s)), j4, j5, j6] [] n z G V Q)) (fun s V V' q hb h0 h1 => fun _ _ _ => tb_X10_laysChange_14 hr0  h0 (fun e => (h1 (by omega)) e) hb) fu x3 V V' q h k1 _ _ _

theorem tb_X10_laysChange_7 {X : mX} {n z : Nat} {G : mG} {r0 : Nat} (hr0 : is10 G r0) {x1 x2 : Int} {j3 j4 j5 j6 : Option Value} {V V' : mV} {q : Nat × Int} {Q : Nat → Nat → mG → mV → Option Value → Prop} (h0 : q.1 = 0 → ∀ j3 j4 j5 j6 : Option Value, T X (5) 233 7 [some (.ref r0), some (.int (iI x1)), some (.int (iI q.2)), j3, j4, j5, j6] [] n z G V' Q) (h1 : q.1 = 1 → ∀ j3 j4 j5 j6 : Option Value, T X (5) 233 71 [some (.ref r0), some (.int (iI x1)), some (.int (iI q.2)), j3, j4, j5, j6] [] n z G V' Q) (h : B_X10_laysChange_7 G r0 x1 x2 V = some (V', q)) : T X (5) 233 7 [some (.ref r0), some (.int (iI x1)), some (.int (iI x2)), j3, j4, j5, j6] [] n z G V Q := by
  unfold B_X10_laysChange_7 at h
  refine t_l fX10_laysChange_7 rfl rfl rfl rfl ?_
  refine t_l fX10_laysChange_8 rfl rfl rfl rfl ?_
  obtain ⟨g5, h⟩ := gd_some h
  obtain ⟨g6, h⟩ := gd_some h
  refine k9_ic_ge fX10_laysChange_9 rfl g5 g6 (fun c4 => ?_) (fun c4 => ?_)
  · replace h := ite_t (c4) h
    cases h
    exact h1 rfl _ _ _ _
  · replace h := ite_f (c4) h
    refine t_s fX10_laysChange_12 rfl rfl rfl ?_
    refine t_l fX10_laysChange_13 rfl rfl rfl rfl ?_
    obtain ⟨V27, u28, e29, h⟩ := bd_some h
    refine tl_X10_laysChange_14 hr0  (fun e30 j4 j5 j6 => ?_) e29
    replace h := lt_some h
    refine k9_iinc fX10_laysChange_65 rfl (Nat.le_of_ble_eq_true rfl) rfl ?_
    refine k9_goto fX10_laysChange_68 rfl ?_
    cases h
    exact h0 rfl _ _ _ _

theorem tl_X10_laysChange_7 {X : mX} {n z : Nat} {G : mG} {r0 : Nat} (hr0 : is10 G r0) {x1 x2 : Int} {j3 j4 j5 j6 : Option Value} {V V' : mV} {fu : Nat} {q : Nat × Int} {Q : Nat → Nat → mG → mV → Option Value → Prop} (k1 : q.1 = 1 → ∀ j3 j4 j5 j6 : Option Value, T X (5) 233 71 [some (.ref r0), some (.int (iI x1)), some (.int (iI q.2)), j3, j4, j5, j6] [] n z G V' Q) (h : lp (fun (s : Int) V => B_X10_laysChange_7 G r0 x1 s V) fu x2 V = some (V', q)) : T X (5) 233 7 [some (.ref r0), some (.int (iI x1)), some (.int (iI x2)), j3, j4, j5, j6] [] n z G V Q :=
  lp_go (P0 := fun s V => ∀ j3 j4 j5 j6 : Option Value, T X (5) 233 7 [some (.ref r0), some (.int (iI x1)), some (.int (iI s)), j3, j4, j5, j6] [] n z G V Q) (PE := fun t s V => (t = 1 → ∀ j3 j4 j5 j6 : Option Value, T X (5) 233 71 [some (.ref r0), some (.int (iI x1)), some (.int (iI s)), j3, j4, j5, j6] [] n z G V Q)) (fun s V V' q hb h0 h1 => fun _ _ _ _ => tb_X10_laysChange_7 hr0  h0 (fun e => (h1 (by omega)) e) hb) fu x2 V V' q h k1 _ _ _ _

theorem tb_X10_laysChange_73 {X : mX} {n z : Nat} {G : mG} {r0 : Nat} (hr0 : is10 G r0) {x1 x2 : Int} {j3 j4 j5 j6 : Option Value} {V V' : mV} {q : Nat × Int} {Q : Nat → Nat → mG → mV → Option Value → Prop} (h0 : q.1 = 0 → ∀ j3 j4 j5 j6 : Option Value, T X (5) 233 73 [some (.ref r0), some (.int (iI x1)), some (.int (iI q.2)), j3, j4, j5, j6] [] n z G V' Q) (h1 : q.1 = 1 → ∀ j3 j4 j5 j6 : Option Value, T X (5) 233 99 [some (.ref r0), some (.int (iI x1)), some (.int (iI q.2)), j3, j4, j5, j6] [] n z G V' Q) (h : B_X10_laysChange_73 G r0 x1 x2 V = some (V', q)) : T X (5) 233 73 [some (.ref r0), some (.int (iI x1)), some (.int (iI x2)), j3, j4, j5, j6] [] n z G V Q := by
  unfold B_X10_laysChange_73 at h
  refine t_l fX10_laysChange_73 rfl rfl rfl rfl ?_
  refine t_s fX10_laysChange_74 rfl rfl rfl ?_
  refine t_l fX10_laysChange_75 rfl rfl rfl rfl ?_
  obtain ⟨g36, h⟩ := gd_some h
  refine k8_ishl fX10_laysChange_76 g36 ?_
  obtain ⟨g38, h⟩ := gd_some h
  obtain ⟨g39, h⟩ := gd_some h
  refine k9_ic_ge fX10_laysChange_77 rfl g38 g39 (fun c37 => ?_) (fun c37 => ?_)
  · replace h := ite_t (c37) h
    cases h
    exact h1 rfl _ _ _ _
  · replace h := ite_f (c37) h
    refine t_l fX10_laysChange_80 rfl rfl rfl rfl ?_
    refine k9_gr fX10_laysChange_81 (hr0).1 kg_10_66 (s10_66r hr0) ?_
    refine t_s fX10_laysChange_84 rfl rfl rfl ?_
    refine t_l fX10_laysChange_87 rfl rfl rfl rfl ?_
    refine k9_imul fX10_laysChange_88 ?_
    refine t_l fX10_laysChange_89 rfl rfl rfl rfl ?_
    refine k9_iadd fX10_laysChange_90 ?_
    refine t_s fX10_laysChange_91 rfl rfl rfl ?_
    obtain ⟨g40, h⟩ := gd_some h
    refine k9_is fX10_laysChange_92 (s10_66s hr0) g40.1 g40.2.1 g40.2.2 ?_
    replace h := lt_some h
    replace h := lt_some h
    refine k9_iinc fX10_laysChange_93 rfl (Nat.le_of_ble_eq_true rfl) rfl ?_
    refine k9_goto fX10_laysChange_96 rfl ?_
    cases h
    exact h0 rfl _ _ _ _

theorem tl_X10_laysChange_73 {X : mX} {n z : Nat} {G : mG} {r0 : Nat} (hr0 : is10 G r0) {x1 x2 : Int} {j3 j4 j5 j6 : Option Value} {V V' : mV} {fu : Nat} {q : Nat × Int} {Q : Nat → Nat → mG → mV → Option Value → Prop} (k1 : q.1 = 1 → ∀ j3 j4 j5 j6 : Option Value, T X (5) 233 99 [some (.ref r0), some (.int (iI x1)), some (.int (iI q.2)), j3, j4, j5, j6] [] n z G V' Q) (h : lp (fun (s : Int) V => B_X10_laysChange_73 G r0 x1 s V) fu x2 V = some (V', q)) : T X (5) 233 73 [some (.ref r0), some (.int (iI x1)), some (.int (iI x2)), j3, j4, j5, j6] [] n z G V Q :=
  lp_go (P0 := fun s V => ∀ j3 j4 j5 j6 : Option Value, T X (5) 233 73 [some (.ref r0), some (.int (iI x1)), some (.int (iI s)), j3, j4, j5, j6] [] n z G V Q) (PE := fun t s V => (t = 1 → ∀ j3 j4 j5 j6 : Option Value, T X (5) 233 99 [some (.ref r0), some (.int (iI x1)), some (.int (iI s)), j3, j4, j5, j6] [] n z G V Q)) (fun s V V' q hb h0 h1 => fun _ _ _ _ => tb_X10_laysChange_73 hr0  h0 (fun e => (h1 (by omega)) e) hb) fu x2 V V' q h k1 _ _ _ _

theorem tb_X10_laysChange_124 {X : mX} {n z : Nat} {G : mG} {r0 : Nat} (hr0 : is10 G r0) {x1 x2 x3 x4 x5 : Int} {j6 : Option Value} {V V' : mV} {q : Nat × Int × Int} {Q : Nat → Nat → mG → mV → Option Value → Prop} (h0 : q.1 = 0 → ∀ j6 : Option Value, T X (5) 233 124 [some (.ref r0), some (.int (iI x1)), some (.int (iI x2)), some (.int (iI x3)), some (.int (iI q.2.1)), some (.int (iI q.2.2)), j6] [] n z G V' Q) (h1 : q.1 = 1 → ∀ j6 : Option Value, T X (5) 233 194 [some (.ref r0), some (.int (iI x1)), some (.int (iI x2)), some (.int (iI x3)), some (.int (iI q.2.1)), some (.int (iI q.2.2)), j6] [] n z G V' Q) (h : B_X10_laysChange_124 G r0 x1 x2 x3 x4 x5 V = some (V', q)) : T X (5) 233 124 [some (.ref r0), some (.int (iI x1)), some (.int (iI x2)), some (.int (iI x3)), some (.int (iI x4)), some (.int (iI x5)), j6] [] n z G V Q := by
  unfold B_X10_laysChange_124 at h
  refine t_l fX10_laysChange_124 rfl rfl rfl rfl ?_
  refine t_l fX10_laysChange_126 rfl rfl rfl rfl ?_
  obtain ⟨g55, h⟩ := gd_some h
  obtain ⟨g56, h⟩ := gd_some h
  refine k9_ic_ge fX10_laysChange_127 rfl g55 g56 (fun c54 => ?_) (fun c54 => ?_)
  · replace h := ite_t (c54) h
    cases h
    exact h1 rfl _
  · replace h := ite_f (c54) h
    refine t_l fX10_laysChange_130 rfl rfl rfl rfl ?_
    refine t_l fX10_laysChange_131 rfl rfl rfl rfl ?_
    obtain ⟨g57, h⟩ := gd_some h
    obtain ⟨g58, h⟩ := gd_some h
    refine k8_ishr fX10_laysChange_133 g57 g58 ?_
    refine t_s fX10_laysChange_134 rfl rfl rfl ?_
    refine k8_iand2 fX10_laysChange_135 ?_
    refine t_s fX10_laysChange_136 rfl rfl rfl ?_
    obtain ⟨g60, h⟩ := gd_some h
    refine k9_ic_ne fX10_laysChange_137 rfl g60 ⟨by decide, by decide⟩ (fun c59 => ?_) (fun c59 => ?_)
    · replace h := ite_f (c59) h
      refine t_l fX10_laysChange_143 rfl rfl rfl rfl ?_
      refine k9_gr fX10_laysChange_144 (hr0).1 kg_10_67 (s10_67r hr0) ?_
      refine t_s fX10_laysChange_147 rfl rfl rfl ?_
      refine t_l fX10_laysChange_149 rfl rfl rfl rfl ?_
      refine k9_imul fX10_laysChange_150 ?_
      refine t_l fX10_laysChange_151 rfl rfl rfl rfl ?_
      refine k9_iadd fX10_laysChange_153 ?_
      obtain ⟨g61, h⟩ := gd_some h
      refine k9_ia fX10_laysChange_154 (s10_67s hr0) g61.1 g61.2.1 g61.2.2 ?_
      refine t_l fX10_laysChange_155 rfl rfl rfl rfl ?_
      refine k9_gr fX10_laysChange_156 (hr0).1 kg_10_66 (s10_66r hr0) ?_
      refine t_s fX10_laysChange_159 rfl rfl rfl ?_
      refine t_l fX10_laysChange_162 rfl rfl rfl rfl ?_
      refine t_s fX10_laysChange_163 rfl rfl rfl ?_
      refine k9_iadd fX10_laysChange_164 ?_
      refine k9_imul fX10_laysChange_165 ?_
      refine t_l fX10_laysChange_166 rfl rfl rfl rfl ?_
      refine t_s fX10_laysChange_167 rfl rfl rfl ?_
      refine t_l fX10_laysChange_168 rfl rfl rfl rfl ?_
      refine k8_ishl fX10_laysChange_170 g58 ?_
      obtain ⟨g62, h⟩ := gd_some h
      refine k8_ior fX10_laysChange_171 g62 ?_
      refine k9_iadd fX10_laysChange_172 ?_
      obtain ⟨g63, h⟩ := gd_some h
      refine k9_ia fX10_laysChange_173 (s10_66s hr0) g63.1 g63.2.1 g63.2.2 ?_
      refine k9_iadd fX10_laysChange_174 ?_
      replace h := lt_some h
      refine t_l fX10_laysChange_175 rfl rfl rfl rfl ?_
      refine t_l fX10_laysChange_177 rfl rfl rfl rfl ?_
      refine t_l fX10_laysChange_179 rfl rfl rfl rfl ?_
      obtain ⟨g66, h⟩ := gd_some h
      obtain ⟨g67, h⟩ := gd_some h
      refine k9_ic_ge fX10_laysChange_181 rfl g66 g67 (fun c65 => ?_) (fun c65 => ?_)
      · replace h := ite_t (c65) h
        replace h := lt_some h
        refine k9_iinc fX10_laysChange_188 rfl (Nat.le_of_ble_eq_true rfl) rfl ?_
        refine k9_goto fX10_laysChange_191 rfl ?_
        cases h
        exact h0 rfl _
      · replace h := ite_f (c65) h
        refine t_l fX10_laysChange_184 rfl rfl rfl rfl ?_
        refine t_l fX10_laysChange_186 rfl rfl rfl rfl ?_
        replace h := lt_some h
        refine k9_iinc fX10_laysChange_188 rfl (Nat.le_of_ble_eq_true rfl) rfl ?_
        refine k9_goto fX10_laysChange_191 rfl ?_
        cases h
        exact h0 rfl _
    · replace h := ite_t (Classical.not_not.mp c59) h
      refine k9_goto fX10_laysChange_140 rfl ?_
      replace h := lt_some h
      refine k9_iinc fX10_laysChange_188 rfl (Nat.le_of_ble_eq_true rfl) rfl ?_
      refine k9_goto fX10_laysChange_191 rfl ?_
      cases h
      exact h0 rfl _

theorem tl_X10_laysChange_124 {X : mX} {n z : Nat} {G : mG} {r0 : Nat} (hr0 : is10 G r0) {x1 x2 x3 x4 x5 : Int} {j6 : Option Value} {V V' : mV} {fu : Nat} {q : Nat × Int × Int} {Q : Nat → Nat → mG → mV → Option Value → Prop} (k1 : q.1 = 1 → ∀ j6 : Option Value, T X (5) 233 194 [some (.ref r0), some (.int (iI x1)), some (.int (iI x2)), some (.int (iI x3)), some (.int (iI q.2.1)), some (.int (iI q.2.2)), j6] [] n z G V' Q) (h : lp (fun (s : Int × Int) V => B_X10_laysChange_124 G r0 x1 x2 x3 s.1 s.2 V) fu (x4, x5) V = some (V', q)) : T X (5) 233 124 [some (.ref r0), some (.int (iI x1)), some (.int (iI x2)), some (.int (iI x3)), some (.int (iI x4)), some (.int (iI x5)), j6] [] n z G V Q :=
  lp_go (P0 := fun s V => ∀ j6 : Option Value, T X (5) 233 124 [some (.ref r0), some (.int (iI x1)), some (.int (iI x2)), some (.int (iI x3)), some (.int (iI s.1)), some (.int (iI s.2)), j6] [] n z G V Q) (PE := fun t s V => (t = 1 → ∀ j6 : Option Value, T X (5) 233 194 [some (.ref r0), some (.int (iI x1)), some (.int (iI x2)), some (.int (iI x3)), some (.int (iI s.1)), some (.int (iI s.2)), j6] [] n z G V Q)) (fun s V V' q hb h0 h1 => fun _ => tb_X10_laysChange_124 hr0  h0 (fun e => (h1 (by omega)) e) hb) fu (x4, x5) V V' q h k1 _

theorem tb_X10_laysChange_109 {X : mX} {n z : Nat} {G : mG} {r0 : Nat} (hr0 : is10 G r0) {x1 x2 x3 : Int} {j4 j5 j6 : Option Value} {V V' : mV} {q : Nat × Int} {Q : Nat → Nat → mG → mV → Option Value → Prop} (h0 : q.1 = 0 → ∀ j4 j5 j6 : Option Value, T X (5) 233 109 [some (.ref r0), some (.int (iI x1)), some (.int (iI x2)), some (.int (iI q.2)), j4, j5, j6] [] n z G V' Q) (h1 : q.1 = 1 → ∀ j4 j5 j6 : Option Value, T X (5) 233 214 [some (.ref r0), some (.int (iI x1)), some (.int (iI x2)), some (.int (iI q.2)), j4, j5, j6] [] n z G V' Q) (h : B_X10_laysChange_109 G r0 x1 x2 x3 V = some (V', q)) : T X (5) 233 109 [some (.ref r0), some (.int (iI x1)), some (.int (iI x2)), some (.int (iI x3)), j4, j5, j6] [] n z G V Q := by
  unfold B_X10_laysChange_109 at h
  refine t_l fX10_laysChange_109 rfl rfl rfl rfl ?_
  refine t_s fX10_laysChange_110 rfl rfl rfl ?_
  refine t_l fX10_laysChange_111 rfl rfl rfl rfl ?_
  obtain ⟨g50, h⟩ := gd_some h
  refine k8_ishl fX10_laysChange_112 g50 ?_
  obtain ⟨g52, h⟩ := gd_some h
  obtain ⟨g53, h⟩ := gd_some h
  refine k9_ic_ge fX10_laysChange_113 rfl g52 g53 (fun c51 => ?_) (fun c51 => ?_)
  · replace h := ite_t (c51) h
    cases h
    exact h1 rfl _ _ _
  · replace h := ite_f (c51) h
    refine t_s fX10_laysChange_116 rfl rfl rfl ?_
    refine t_l fX10_laysChange_119 rfl rfl rfl rfl ?_
    refine t_s fX10_laysChange_121 rfl rfl rfl ?_
    refine t_l fX10_laysChange_122 rfl rfl rfl rfl ?_
    obtain ⟨V71, u72, e73, h⟩ := bd_some h
    refine tl_X10_laysChange_124 hr0  (fun e74 j6 => ?_) e73
    refine t_l fX10_laysChange_194 rfl rfl rfl rfl ?_
    refine k9_gr fX10_laysChange_195 (hr0).1 kg_10_66 (s10_66r hr0) ?_
    refine t_s fX10_laysChange_198 rfl rfl rfl ?_
    refine t_l fX10_laysChange_201 rfl rfl rfl rfl ?_
    refine k9_imul fX10_laysChange_202 ?_
    refine t_l fX10_laysChange_203 rfl rfl rfl rfl ?_
    refine k9_iadd fX10_laysChange_204 ?_
    refine t_l fX10_laysChange_205 rfl rfl rfl rfl ?_
    obtain ⟨g75, h⟩ := gd_some h
    refine k9_is fX10_laysChange_207 (s10_66s hr0) g75.1 g75.2.1 g75.2.2 ?_
    replace h := lt_some h
    replace h := lt_some h
    refine k9_iinc fX10_laysChange_208 rfl (Nat.le_of_ble_eq_true rfl) rfl ?_
    refine k9_goto fX10_laysChange_211 rfl ?_
    cases h
    exact h0 rfl _ _ _

theorem tl_X10_laysChange_109 {X : mX} {n z : Nat} {G : mG} {r0 : Nat} (hr0 : is10 G r0) {x1 x2 x3 : Int} {j4 j5 j6 : Option Value} {V V' : mV} {fu : Nat} {q : Nat × Int} {Q : Nat → Nat → mG → mV → Option Value → Prop} (k1 : q.1 = 1 → ∀ j4 j5 j6 : Option Value, T X (5) 233 214 [some (.ref r0), some (.int (iI x1)), some (.int (iI x2)), some (.int (iI q.2)), j4, j5, j6] [] n z G V' Q) (h : lp (fun (s : Int) V => B_X10_laysChange_109 G r0 x1 x2 s V) fu x3 V = some (V', q)) : T X (5) 233 109 [some (.ref r0), some (.int (iI x1)), some (.int (iI x2)), some (.int (iI x3)), j4, j5, j6] [] n z G V Q :=
  lp_go (P0 := fun s V => ∀ j4 j5 j6 : Option Value, T X (5) 233 109 [some (.ref r0), some (.int (iI x1)), some (.int (iI x2)), some (.int (iI s)), j4, j5, j6] [] n z G V Q) (PE := fun t s V => (t = 1 → ∀ j4 j5 j6 : Option Value, T X (5) 233 214 [some (.ref r0), some (.int (iI x1)), some (.int (iI x2)), some (.int (iI s)), j4, j5, j6] [] n z G V Q)) (fun s V V' q hb h0 h1 => fun _ _ _ => tb_X10_laysChange_109 hr0  h0 (fun e => (h1 (by omega)) e) hb) fu x3 V V' q h k1 _ _ _

theorem tb_X10_laysChange_103 {X : mX} {n z : Nat} {G : mG} {r0 : Nat} (hr0 : is10 G r0) {x1 x2 : Int} {j3 j4 j5 j6 : Option Value} {V V' : mV} {q : Nat × Int} {Q : Nat → Nat → mG → mV → Option Value → Prop} (h0 : q.1 = 0 → ∀ j3 j4 j5 j6 : Option Value, T X (5) 233 103 [some (.ref r0), some (.int (iI x1)), some (.int (iI q.2)), j3, j4, j5, j6] [] n z G V' Q) (h1 : q.1 = 1 → ∀ j1 j3 j4 j5 j6 : Option Value, T X (5) 233 220 [some (.ref r0), j1, some (.int (iI q.2)), j3, j4, j5, j6] [] n z G V' Q) (h : B_X10_laysChange_103 G r0 x1 x2 V = some (V', q)) : T X (5) 233 103 [some (.ref r0), some (.int (iI x1)), some (.int (iI x2)), j3, j4, j5, j6] [] n z G V Q := by
  unfold B_X10_laysChange_103 at h
  refine t_l fX10_laysChange_103 rfl rfl rfl rfl ?_
  obtain ⟨g49, h⟩ := gd_some h
  refine k9_if_lt fX10_laysChange_104 rfl g49 (fun c48 => ?_) (fun c48 => ?_)
  · replace h := ite_t (c48) h
    cases h
    exact h1 rfl _ _ _ _ _
  · replace h := ite_f (c48) h
    refine t_s fX10_laysChange_107 rfl rfl rfl ?_
    refine t_l fX10_laysChange_108 rfl rfl rfl rfl ?_
    obtain ⟨V78, u79, e80, h⟩ := bd_some h
    refine tl_X10_laysChange_109 hr0  (fun e81 j4 j5 j6 => ?_) e80
    replace h := lt_some h
    refine k9_iinc fX10_laysChange_214 rfl (Nat.le_of_ble_eq_true rfl) rfl ?_
    refine k9_goto fX10_laysChange_217 rfl ?_
    cases h
    exact h0 rfl _ _ _ _

theorem tl_X10_laysChange_103 {X : mX} {n z : Nat} {G : mG} {r0 : Nat} (hr0 : is10 G r0) {x1 x2 : Int} {j3 j4 j5 j6 : Option Value} {V V' : mV} {fu : Nat} {q : Nat × Int} {Q : Nat → Nat → mG → mV → Option Value → Prop} (k1 : q.1 = 1 → ∀ j1 j3 j4 j5 j6 : Option Value, T X (5) 233 220 [some (.ref r0), j1, some (.int (iI q.2)), j3, j4, j5, j6] [] n z G V' Q) (h : lp (fun (s : Int) V => B_X10_laysChange_103 G r0 x1 s V) fu x2 V = some (V', q)) : T X (5) 233 103 [some (.ref r0), some (.int (iI x1)), some (.int (iI x2)), j3, j4, j5, j6] [] n z G V Q :=
  lp_go (P0 := fun s V => ∀ j3 j4 j5 j6 : Option Value, T X (5) 233 103 [some (.ref r0), some (.int (iI x1)), some (.int (iI s)), j3, j4, j5, j6] [] n z G V Q) (PE := fun t s V => (t = 1 → ∀ j1 j3 j4 j5 j6 : Option Value, T X (5) 233 220 [some (.ref r0), j1, some (.int (iI s)), j3, j4, j5, j6] [] n z G V Q)) (fun s V V' q hb h0 h1 => fun _ _ _ _ => tb_X10_laysChange_103 hr0  h0 (fun e => (h1 (by omega)) e) hb) fu x2 V V' q h k1 _ _ _ _

theorem q_X10_laysChange {X : mX} {n z : Nat} {G : mG} {r0 : Nat} (hr0 : is10 G r0) {V V' : mV} {v : Int} (h : F_X10_laysChange G r0 V = some (V', v)) : Rn X (5) 233 [.ref r0] n z G V n z G V' none := by
  refine qv_toR (v := v) (L := [some (.ref r0), none, none, none, none, none, none]) rfl ?_
  unfold F_X10_laysChange at h
  refine t_l fX10_laysChange_0 rfl rfl rfl rfl ?_
  obtain ⟨V1, v2, e3, h⟩ := bd_some h
  refine kcX10_peopleMany fX10_laysChange_1 (hr0).1 rfl (q_X10_peopleMany (hr0) e3) (by decide) ?_
  refine t_l fX10_laysChange_4 rfl rfl rfl rfl ?_
  refine t_s fX10_laysChange_5 rfl rfl rfl ?_
  refine t_l fX10_laysChange_6 rfl rfl rfl rfl ?_
  obtain ⟨V32, u33, e34, h⟩ := bd_some h
  refine tl_X10_laysChange_7 hr0  (fun e35 j3 j4 j5 j6 => ?_) e34
  refine t_s fX10_laysChange_71 rfl rfl rfl ?_
  refine t_l fX10_laysChange_72 rfl rfl rfl rfl ?_
  obtain ⟨V43, u44, e45, h⟩ := bd_some h
  refine tl_X10_laysChange_73 hr0  (fun e46 j3 j4 j5 j6 => ?_) e45
  refine t_l fX10_laysChange_99 rfl rfl rfl rfl ?_
  refine t_s fX10_laysChange_100 rfl rfl rfl ?_
  refine k9_isub fX10_laysChange_101 ?_
  replace h := lt_some h
  refine t_l fX10_laysChange_102 rfl rfl rfl rfl ?_
  obtain ⟨V83, u84, e85, h⟩ := bd_some h
  refine tl_X10_laysChange_103 hr0  (fun e86 j1 j3 j4 j5 j6 => ?_) e85
  refine t_ret fX10_laysChange_220 rX10_laysChange ?_
  exact qf_v h

theorem tb_X10_change_54 {X : mX} {n z : Nat} {G : mG} {r0 : Nat} (hr0 : is10 G r0) {x1 x2 x4 x3 : Int} {V V' : mV} {q : Nat × Int} {Q : Nat → Nat → mG → mV → Option Value → Prop} (h0 : q.1 = 0 → T X (6) 234 54 [some (.ref r0), some (.int (iI x1)), some (.int (iI x2)), some (.int (iI q.2)), some (.int (iI x4))] [] n z G V' Q) (h1 : q.1 = 1 → T X (6) 234 117 [some (.ref r0), some (.int (iI x1)), some (.int (iI x2)), some (.int (iI q.2)), some (.int (iI x4))] [] n z G V' Q) (h : B_X10_change_54 G r0 x1 x2 x4 x3 V = some (V', q)) : T X (6) 234 54 [some (.ref r0), some (.int (iI x1)), some (.int (iI x2)), some (.int (iI x3)), some (.int (iI x4))] [] n z G V Q := by
  unfold B_X10_change_54 at h
  refine t_l fX10_change_54 rfl rfl rfl rfl ?_
  refine t_l fX10_change_55 rfl rfl rfl rfl ?_
  obtain ⟨g16, h⟩ := gd_some h
  obtain ⟨g17, h⟩ := gd_some h
  refine k8_ishr fX10_change_56 g16 g17 ?_
  refine t_s fX10_change_57 rfl rfl rfl ?_
  refine k8_iand2 fX10_change_58 ?_
  refine t_s fX10_change_59 rfl rfl rfl ?_
  obtain ⟨g19, h⟩ := gd_some h
  refine k9_ic_eq fX10_change_60 rfl g19 ⟨by decide, by decide⟩ (fun c18 => ?_) (fun c18 => ?_)
  · replace h := ite_t (c18) h
    replace h := lt_some h
    refine k9_iinc fX10_change_111 rfl (Nat.le_of_ble_eq_true rfl) rfl ?_
    refine k9_goto fX10_change_114 rfl ?_
    cases h
    exact h0 rfl
  · replace h := ite_f (c18) h
    refine t_l fX10_change_63 rfl rfl rfl rfl ?_
    refine k9_gr fX10_change_64 (hr0).1 kg_10_67 (s10_67r hr0) ?_
    refine t_s fX10_change_67 rfl rfl rfl ?_
    refine t_l fX10_change_69 rfl rfl rfl rfl ?_
    refine k9_imul fX10_change_71 ?_
    refine t_l fX10_change_72 rfl rfl rfl rfl ?_
    refine k9_iadd fX10_change_73 ?_
    obtain ⟨g21, h⟩ := gd_some h
    refine k9_ia fX10_change_74 (s10_67s hr0) g21.1 g21.2.1 g21.2.2 ?_
    refine t_l fX10_change_75 rfl rfl rfl rfl ?_
    refine k9_gr fX10_change_76 (hr0).1 kg_10_66 (s10_66r hr0) ?_
    refine t_s fX10_change_79 rfl rfl rfl ?_
    refine t_l fX10_change_82 rfl rfl rfl rfl ?_
    refine t_s fX10_change_84 rfl rfl rfl ?_
    refine k9_iadd fX10_change_85 ?_
    refine k9_imul fX10_change_86 ?_
    refine t_l fX10_change_87 rfl rfl rfl rfl ?_
    refine t_s fX10_change_88 rfl rfl rfl ?_
    refine t_l fX10_change_89 rfl rfl rfl rfl ?_
    refine k8_ishl fX10_change_90 g17 ?_
    obtain ⟨g22, h⟩ := gd_some h
    refine k8_ior fX10_change_91 g22 ?_
    refine k9_iadd fX10_change_92 ?_
    obtain ⟨g23, h⟩ := gd_some h
    refine k9_ia fX10_change_93 (s10_66s hr0) g23.1 g23.2.1 g23.2.2 ?_
    refine k9_iadd fX10_change_94 ?_
    refine t_l fX10_change_95 rfl rfl rfl rfl ?_
    refine k9_gr fX10_change_96 (hr0).1 kg_10_66 (s10_66r hr0) ?_
    refine t_s fX10_change_99 rfl rfl rfl ?_
    refine t_l fX10_change_102 rfl rfl rfl rfl ?_
    refine k9_imul fX10_change_104 ?_
    refine t_l fX10_change_105 rfl rfl rfl rfl ?_
    refine k9_iadd fX10_change_106 ?_
    obtain ⟨g24, h⟩ := gd_some h
    refine k9_ia fX10_change_107 (s10_66s hr0) g24.1 g24.2.1 g24.2.2 ?_
    obtain ⟨g26, h⟩ := gd_some h
    obtain ⟨g27, h⟩ := gd_some h
    refine k9_ic_eq fX10_change_108 rfl g26 g27 (fun c25 => ?_) (fun c25 => ?_)
    · replace h := ite_t (c25) h
      cases h
      exact h1 rfl
    · replace h := ite_f (c25) h
      replace h := lt_some h
      refine k9_iinc fX10_change_111 rfl (Nat.le_of_ble_eq_true rfl) rfl ?_
      refine k9_goto fX10_change_114 rfl ?_
      cases h
      exact h0 rfl

theorem tl_X10_change_54 {X : mX} {n z : Nat} {G : mG} {r0 : Nat} (hr0 : is10 G r0) {x1 x2 x4 x3 : Int} {V V' : mV} {fu : Nat} {q : Nat × Int} {Q : Nat → Nat → mG → mV → Option Value → Prop} (k1 : q.1 = 1 → T X (6) 234 117 [some (.ref r0), some (.int (iI x1)), some (.int (iI x2)), some (.int (iI q.2)), some (.int (iI x4))] [] n z G V' Q) (h : lp (fun (s : Int) V => B_X10_change_54 G r0 x1 x2 x4 s V) fu x3 V = some (V', q)) : T X (6) 234 54 [some (.ref r0), some (.int (iI x1)), some (.int (iI x2)), some (.int (iI x3)), some (.int (iI x4))] [] n z G V Q :=
  lp_go (P0 := fun s V => T X (6) 234 54 [some (.ref r0), some (.int (iI x1)), some (.int (iI x2)), some (.int (iI s)), some (.int (iI x4))] [] n z G V Q) (PE := fun t s V => (t = 1 → T X (6) 234 117 [some (.ref r0), some (.int (iI x1)), some (.int (iI x2)), some (.int (iI s)), some (.int (iI x4))] [] n z G V Q)) (fun s V V' q hb h0 h1 => tb_X10_change_54 hr0  h0 (fun e => (h1 (by omega)) e) hb) fu x3 V V' q h k1

theorem tb_X10_change_46 {X : mX} {n z : Nat} {G : mG} {r0 : Nat} (hr0 : is10 G r0) {x1 x2 x3 x4 : Int} {V V' : mV} {q : Nat × Int × Int × Int} {Q : Nat → Nat → mG → mV → Option Value → Prop} (h0 : q.1 = 0 → T X (6) 234 46 [some (.ref r0), some (.int (iI x1)), some (.int (iI q.2.1)), some (.int (iI q.2.2.1)), some (.int (iI q.2.2.2))] [] n z G V' Q) (h1 : q.1 = 1 → T X (6) 234 129 [some (.ref r0), some (.int (iI x1)), some (.int (iI q.2.1)), some (.int (iI q.2.2.1)), some (.int (iI q.2.2.2))] [] n z G V' Q) (h : B_X10_change_46 G r0 x1 x2 x3 x4 V = some (V', q)) : T X (6) 234 46 [some (.ref r0), some (.int (iI x1)), some (.int (iI x2)), some (.int (iI x3)), some (.int (iI x4))] [] n z G V Q := by
  unfold B_X10_change_46 at h
  refine t_l fX10_change_46 rfl rfl rfl rfl ?_
  refine t_l fX10_change_48 rfl rfl rfl rfl ?_
  obtain ⟨g14, h⟩ := gd_some h
  obtain ⟨g15, h⟩ := gd_some h
  refine k9_ic_gt fX10_change_49 rfl g14 g15 (fun c13 => ?_) (fun c13 => ?_)
  · replace h := ite_t (c13) h
    cases h
    exact h1 rfl
  · replace h := ite_f (c13) h
    refine t_s fX10_change_52 rfl rfl rfl ?_
    refine t_l fX10_change_53 rfl rfl rfl rfl ?_
    obtain ⟨V29, u30, e31, h⟩ := bd_some h
    refine tl_X10_change_54 hr0  (fun e32 => ?_) e31
    refine t_l fX10_change_117 rfl rfl rfl rfl ?_
    refine t_s fX10_change_118 rfl rfl rfl ?_
    refine t_l fX10_change_119 rfl rfl rfl rfl ?_
    obtain ⟨g33, h⟩ := gd_some h
    refine k8_ishl fX10_change_120 g33 ?_
    obtain ⟨g34, h⟩ := gd_some h
    refine k8_ior fX10_change_121 g34 ?_
    replace h := lt_some h
    refine t_l fX10_change_122 rfl rfl rfl rfl ?_
    replace h := lt_some h
    refine k9_iinc fX10_change_123 rfl (Nat.le_of_ble_eq_true rfl) rfl ?_
    refine k9_goto fX10_change_126 rfl ?_
    cases h
    exact h0 rfl

theorem tl_X10_change_46 {X : mX} {n z : Nat} {G : mG} {r0 : Nat} (hr0 : is10 G r0) {x1 x2 x3 x4 : Int} {V V' : mV} {fu : Nat} {q : Nat × Int × Int × Int} {Q : Nat → Nat → mG → mV → Option Value → Prop} (k1 : q.1 = 1 → T X (6) 234 129 [some (.ref r0), some (.int (iI x1)), some (.int (iI q.2.1)), some (.int (iI q.2.2.1)), some (.int (iI q.2.2.2))] [] n z G V' Q) (h : lp (fun (s : Int × Int × Int) V => B_X10_change_46 G r0 x1 s.1 s.2.1 s.2.2 V) fu (x2, x3, x4) V = some (V', q)) : T X (6) 234 46 [some (.ref r0), some (.int (iI x1)), some (.int (iI x2)), some (.int (iI x3)), some (.int (iI x4))] [] n z G V Q :=
  lp_go (P0 := fun s V => T X (6) 234 46 [some (.ref r0), some (.int (iI x1)), some (.int (iI s.1)), some (.int (iI s.2.1)), some (.int (iI s.2.2))] [] n z G V Q) (PE := fun t s V => (t = 1 → T X (6) 234 129 [some (.ref r0), some (.int (iI x1)), some (.int (iI s.1)), some (.int (iI s.2.1)), some (.int (iI s.2.2))] [] n z G V Q)) (fun s V V' q hb h0 h1 => tb_X10_change_46 hr0  h0 (fun e => (h1 (by omega)) e) hb) fu (x2, x3, x4) V V' q h k1

theorem tj_X10_change_J23 {X : mX} {n z : Nat} {G : mG} {r0 : Nat} (hr0 : is10 G r0) {x1 : Int} {j2 j3 j4 : Option Value} {V V' : mV} {v : Int} (h : F_X10_change_J23 G r0 x1 V = some (V', v)) : T X (6) 234 23 [some (.ref r0), some (.int (iI x1)), j2, j3, j4] [] n z G V (qi n z G V' v) := by
  unfold F_X10_change_J23 at h
  refine t_l fX10_change_23 rfl rfl rfl rfl ?_
  obtain ⟨V8, v9, e10, h⟩ := bd_some h
  refine kcX10_laysChange fX10_change_24 (hr0).1 rfl (q_X10_laysChange (hr0) e10) (by decide) ?_
  refine t_l fX10_change_27 rfl rfl rfl rfl ?_
  refine t_s fX10_change_28 rfl rfl rfl ?_
  obtain ⟨g12, h⟩ := gd_some h
  refine k9_ic_ne fX10_change_29 rfl g12 ⟨by decide, by decide⟩ (fun c11 => ?_) (fun c11 => ?_)
  · replace h := ite_f (c11) h
    refine t_s fX10_change_39 rfl rfl rfl ?_
    refine t_l fX10_change_40 rfl rfl rfl rfl ?_
    refine t_s fX10_change_41 rfl rfl rfl ?_
    refine t_l fX10_change_42 rfl rfl rfl rfl ?_
    refine t_s fX10_change_43 rfl rfl rfl ?_
    refine t_l fX10_change_44 rfl rfl rfl rfl ?_
    obtain ⟨V37, u38, e39, h⟩ := bd_some h
    refine tl_X10_change_46 hr0  (fun e40 => ?_) e39
    refine t_l fX10_change_129 rfl rfl rfl rfl ?_
    refine t_ret fX10_change_130 rX10_change ?_
    exact qf_i h
  · replace h := ite_t (Classical.not_not.mp c11) h
    refine t_l fX10_change_32 rfl rfl rfl rfl ?_
    refine k9_gr fX10_change_33 (hr0).1 kg_10_66 (s10_66r hr0) ?_
    refine t_s fX10_change_36 rfl rfl rfl ?_
    refine k9_ia fX10_change_37 (s10_66s hr0) (by decide) (by decide) (by decide) ?_
    refine t_ret fX10_change_38 rX10_change ?_
    exact qf_i h

theorem q_X10_change {X : mX} {n z : Nat} {G : mG} {r0 : Nat} (hr0 : is10 G r0) {x1 : Int} {V V' : mV} {v : Int} (h : F_X10_change G r0 x1 V = some (V', v)) : Rn X (6) 234 [.ref r0, .int (iI x1)] n z G V n z G V' (some (.int (iI v))) := by
  refine qi_toR (v := v) (L := [some (.ref r0), some (.int (iI x1)), none, none, none]) rfl ?_
  unfold F_X10_change at h
  refine t_l fX10_change_0 rfl rfl rfl rfl ?_
  obtain ⟨V1, v2, e3, h⟩ := bd_some h
  refine kcX10_peopleMany fX10_change_1 (hr0).1 rfl (q_X10_peopleMany (hr0) e3) (by decide) ?_
  refine t_s fX10_change_4 rfl rfl rfl ?_
  obtain ⟨g5, h⟩ := gd_some h
  refine k9_ic_lt fX10_change_5 rfl g5 ⟨by decide, by decide⟩ (fun c4 => ?_) (fun c4 => ?_)
  · replace h := ite_t (c4) h
    refine t_s fX10_change_21 rfl rfl rfl ?_
    refine t_ret fX10_change_22 rX10_change ?_
    exact qf_i h
  · replace h := ite_f (c4) h
    refine t_l fX10_change_8 rfl rfl rfl rfl ?_
    refine t_s fX10_change_9 rfl rfl rfl ?_
    obtain ⟨g7, h⟩ := gd_some h
    refine k9_ic_eq fX10_change_10 rfl g7 ⟨by decide, by decide⟩ (fun c6 => ?_) (fun c6 => ?_)
    · replace h := ite_t (c6) h
      exact tj_X10_change_J23 hr0   h
    · replace h := ite_f (c6) h
      refine t_l fX10_change_13 rfl rfl rfl rfl ?_
      refine t_l fX10_change_14 rfl rfl rfl rfl ?_
      obtain ⟨V41, v42, e43, h⟩ := bd_some h
      refine kcX10_isPerson fX10_change_15 (hr0).1 rfl (q_X10_isPerson (hr0) e43) (by decide) ?_
      obtain ⟨g45, h⟩ := gd_some h
      refine k9_if_ne fX10_change_18 rfl g45 (fun c44 => ?_) (fun c44 => ?_)
      · replace h := ite_f (c44) h
        exact tj_X10_change_J23 hr0   h
      · replace h := ite_t (Classical.not_not.mp c44) h
        refine t_s fX10_change_21 rfl rfl rfl ?_
        refine t_ret fX10_change_22 rX10_change ?_
        exact qf_i h

theorem tb_X10_ring_22 {X : mX} {n z : Nat} {G : mG} {r0 : Nat} (hr0 : is10 G r0) {x1 x2 x3 : Int} {V V' : mV} {q : Nat × Int × Int} {Q : Nat → Nat → mG → mV → Option Value → Prop} (h0 : q.1 = 0 → T X (2) 235 22 [some (.ref r0), some (.int (iI x1)), some (.int (iI q.2.1)), some (.int (iI q.2.2))] [] n z G V' Q) (h1 : q.1 = 1 → T X (2) 235 54 [some (.ref r0), some (.int (iI x1)), some (.int (iI q.2.1)), some (.int (iI q.2.2))] [] n z G V' Q) (h : B_X10_ring_22 G r0 x1 x2 x3 V = some (V', q)) : T X (2) 235 22 [some (.ref r0), some (.int (iI x1)), some (.int (iI x2)), some (.int (iI x3))] [] n z G V Q := by
  unfold B_X10_ring_22 at h
  refine t_l fX10_ring_22 rfl rfl rfl rfl ?_
  refine t_s fX10_ring_23 rfl rfl rfl ?_
  obtain ⟨g9, h⟩ := gd_some h
  refine k9_ic_eq fX10_ring_24 rfl g9 ⟨by decide, by decide⟩ (fun c8 => ?_) (fun c8 => ?_)
  · replace h := ite_t (c8) h
    cases h
    exact h1 rfl
  · replace h := ite_f (c8) h
    refine t_l fX10_ring_27 rfl rfl rfl rfl ?_
    refine t_l fX10_ring_28 rfl rfl rfl rfl ?_
    obtain ⟨g11, h⟩ := gd_some h
    refine k9_ic_eq fX10_ring_29 rfl g9 g11 (fun c10 => ?_) (fun c10 => ?_)
    · replace h := ite_t (c10) h
      cases h
      exact h1 rfl
    · replace h := ite_f (c10) h
      refine t_l fX10_ring_32 rfl rfl rfl rfl ?_
      refine t_s fX10_ring_33 rfl rfl rfl ?_
      obtain ⟨g13, h⟩ := gd_some h
      refine k9_ic_gt fX10_ring_35 rfl g13 ⟨by decide, by decide⟩ (fun c12 => ?_) (fun c12 => ?_)
      · replace h := ite_t (c12) h
        cases h
        exact h1 rfl
      · replace h := ite_f (c12) h
        refine t_l fX10_ring_38 rfl rfl rfl rfl ?_
        refine k9_gr fX10_ring_39 (hr0).1 kg_10_40 (s10_40r hr0) ?_
        refine t_s fX10_ring_42 rfl rfl rfl ?_
        refine t_l fX10_ring_44 rfl rfl rfl rfl ?_
        refine k9_iadd fX10_ring_45 ?_
        obtain ⟨g14, h⟩ := gd_some h
        refine k9_ia fX10_ring_46 (s10_40s hr0) g14.1 g14.2.1 g14.2.2 ?_
        replace h := lt_some h
        refine t_l fX10_ring_47 rfl rfl rfl rfl ?_
        replace h := lt_some h
        refine k9_iinc fX10_ring_48 rfl (Nat.le_of_ble_eq_true rfl) rfl ?_
        refine k9_goto fX10_ring_51 rfl ?_
        cases h
        exact h0 rfl

theorem tl_X10_ring_22 {X : mX} {n z : Nat} {G : mG} {r0 : Nat} (hr0 : is10 G r0) {x1 x2 x3 : Int} {V V' : mV} {fu : Nat} {q : Nat × Int × Int} {Q : Nat → Nat → mG → mV → Option Value → Prop} (k1 : q.1 = 1 → T X (2) 235 54 [some (.ref r0), some (.int (iI x1)), some (.int (iI q.2.1)), some (.int (iI q.2.2))] [] n z G V' Q) (h : lp (fun (s : Int × Int) V => B_X10_ring_22 G r0 x1 s.1 s.2 V) fu (x2, x3) V = some (V', q)) : T X (2) 235 22 [some (.ref r0), some (.int (iI x1)), some (.int (iI x2)), some (.int (iI x3))] [] n z G V Q :=
  lp_go (P0 := fun s V => T X (2) 235 22 [some (.ref r0), some (.int (iI x1)), some (.int (iI s.1)), some (.int (iI s.2))] [] n z G V Q) (PE := fun t s V => (t = 1 → T X (2) 235 54 [some (.ref r0), some (.int (iI x1)), some (.int (iI s.1)), some (.int (iI s.2))] [] n z G V Q)) (fun s V V' q hb h0 h1 => tb_X10_ring_22 hr0  h0 (fun e => (h1 (by omega)) e) hb) fu (x2, x3) V V' q h k1

theorem tj_X10_ring_J54 {X : mX} {n z : Nat} {G : mG} {r0 : Nat} (hr0 : is10 G r0) {x1 x2 x3 : Int} {V V' : mV} {v : Int} (h : F_X10_ring_J54 G r0 x1 x2 x3 V = some (V', v)) : T X (2) 235 54 [some (.ref r0), some (.int (iI x1)), some (.int (iI x2)), some (.int (iI x3))] [] n z G V (qi n z G V' v) := by
  unfold F_X10_ring_J54 at h
  refine t_l fX10_ring_54 rfl rfl rfl rfl ?_
  refine t_l fX10_ring_55 rfl rfl rfl rfl ?_
  obtain ⟨g22, h⟩ := gd_some h
  obtain ⟨g23, h⟩ := gd_some h
  refine k9_ic_ne fX10_ring_56 rfl g22 g23 (fun c21 => ?_) (fun c21 => ?_)
  · replace h := ite_f (c21) h
    refine t_s fX10_ring_63 rfl rfl rfl ?_
    refine t_ret fX10_ring_64 rX10_ring ?_
    exact qf_i h
  · replace h := ite_t (Classical.not_not.mp c21) h
    refine t_l fX10_ring_59 rfl rfl rfl rfl ?_
    refine k9_goto fX10_ring_60 rfl ?_
    refine t_ret fX10_ring_64 rX10_ring ?_
    exact qf_i h

theorem q_X10_ring {X : mX} {n z : Nat} {G : mG} {r0 : Nat} (hr0 : is10 G r0) {x1 : Int} {V V' : mV} {v : Int} (h : F_X10_ring G r0 x1 V = some (V', v)) : Rn X (2) 235 [.ref r0, .int (iI x1)] n z G V n z G V' (some (.int (iI v))) := by
  refine qi_toR (v := v) (L := [some (.ref r0), some (.int (iI x1)), none, none]) rfl ?_
  unfold F_X10_ring at h
  refine t_l fX10_ring_0 rfl rfl rfl rfl ?_
  refine t_l fX10_ring_1 rfl rfl rfl rfl ?_
  obtain ⟨V1, v2, e3, h⟩ := bd_some h
  refine kcX10_isPerson fX10_ring_2 (hr0).1 rfl (q_X10_isPerson (hr0) e3) (by decide) ?_
  obtain ⟨g5, h⟩ := gd_some h
  refine k9_if_ne fX10_ring_5 rfl g5 (fun c4 => ?_) (fun c4 => ?_)
  · replace h := ite_f (c4) h
    refine t_s fX10_ring_10 rfl rfl rfl ?_
    refine t_l fX10_ring_11 rfl rfl rfl rfl ?_
    refine t_l fX10_ring_12 rfl rfl rfl rfl ?_
    refine k9_gr fX10_ring_13 (hr0).1 kg_10_40 (s10_40r hr0) ?_
    refine t_s fX10_ring_16 rfl rfl rfl ?_
    refine t_l fX10_ring_18 rfl rfl rfl rfl ?_
    refine k9_iadd fX10_ring_19 ?_
    obtain ⟨g6, h⟩ := gd_some h
    refine k9_ia fX10_ring_20 (s10_40s hr0) g6.1 g6.2.1 g6.2.2 ?_
    replace h := lt_some h
    refine t_l fX10_ring_21 rfl rfl rfl rfl ?_
    obtain ⟨V17, u18, e19, h⟩ := bd_some h
    refine tl_X10_ring_22 hr0  (fun e20 => ?_) e19
    exact tj_X10_ring_J54 hr0   h
  · replace h := ite_t (Classical.not_not.mp c4) h
    refine t_s fX10_ring_8 rfl rfl rfl ?_
    refine t_ret fX10_ring_9 rX10_ring ?_
    exact qf_i h

theorem tb_X10_odds_57 {X : mX} {n z : Nat} {G : mG} {r0 : Nat} (hr0 : is10 G r0) {x1 x2 x3 x4 x5 x6 : Int} {j7 j8 j9 : Option Value} {V V' : mV} {q : Nat × Int} {Q : Nat → Nat → mG → mV → Option Value → Prop} (h0 : q.1 = 0 → ∀ j7 j8 j9 : Option Value, T X (2) 236 57 [some (.ref r0), some (.int (iI x1)), some (.int (iI x2)), some (.int (iI x3)), some (.int (iI x4)), some (.int (iI x5)), some (.int (iI q.2)), j7, j8, j9] [] n z G V' Q) (h1 : q.1 = 1 → ∀ j7 j8 j9 : Option Value, T X (2) 236 80 [some (.ref r0), some (.int (iI x1)), some (.int (iI x2)), some (.int (iI x3)), some (.int (iI x4)), some (.int (iI x5)), some (.int (iI q.2)), j7, j8, j9] [] n z G V' Q) (h : B_X10_odds_57 G r0 x1 x2 x3 x4 x5 x6 V = some (V', q)) : T X (2) 236 57 [some (.ref r0), some (.int (iI x1)), some (.int (iI x2)), some (.int (iI x3)), some (.int (iI x4)), some (.int (iI x5)), some (.int (iI x6)), j7, j8, j9] [] n z G V Q := by
  unfold B_X10_odds_57 at h
  refine t_l fX10_odds_57 rfl rfl rfl rfl ?_
  refine t_l fX10_odds_59 rfl rfl rfl rfl ?_
  obtain ⟨V29, v30, e31, h⟩ := bd_some h
  refine kcX10_peopleMany fX10_odds_60 (hr0).1 rfl (q_X10_peopleMany (hr0) e31) (by decide) ?_
  obtain ⟨g33, h⟩ := gd_some h
  obtain ⟨g34, h⟩ := gd_some h
  refine k9_ic_ge fX10_odds_63 rfl g33 g34 (fun c32 => ?_) (fun c32 => ?_)
  · replace h := ite_t (c32) h
    cases h
    exact h1 rfl _ _ _
  · replace h := ite_f (c32) h
    refine t_l fX10_odds_66 rfl rfl rfl rfl ?_
    refine t_l fX10_odds_67 rfl rfl rfl rfl ?_
    refine t_l fX10_odds_69 rfl rfl rfl rfl ?_
    obtain ⟨V35, v36, e37, h⟩ := bd_some h
    refine kcX10_liveNow fX10_odds_71 (hr0).1 rfl (q_X10_liveNow (hr0) e37) (by decide) ?_
    replace h := lt_some h
    refine k9_iinc fX10_odds_74 rfl (Nat.le_of_ble_eq_true rfl) rfl ?_
    refine k9_goto fX10_odds_77 rfl ?_
    cases h
    exact h0 rfl _ _ _

theorem tl_X10_odds_57 {X : mX} {n z : Nat} {G : mG} {r0 : Nat} (hr0 : is10 G r0) {x1 x2 x3 x4 x5 x6 : Int} {j7 j8 j9 : Option Value} {V V' : mV} {fu : Nat} {q : Nat × Int} {Q : Nat → Nat → mG → mV → Option Value → Prop} (k1 : q.1 = 1 → ∀ j7 j8 j9 : Option Value, T X (2) 236 80 [some (.ref r0), some (.int (iI x1)), some (.int (iI x2)), some (.int (iI x3)), some (.int (iI x4)), some (.int (iI x5)), some (.int (iI q.2)), j7, j8, j9] [] n z G V' Q) (h : lp (fun (s : Int) V => B_X10_odds_57 G r0 x1 x2 x3 x4 x5 s V) fu x6 V = some (V', q)) : T X (2) 236 57 [some (.ref r0), some (.int (iI x1)), some (.int (iI x2)), some (.int (iI x3)), some (.int (iI x4)), some (.int (iI x5)), some (.int (iI x6)), j7, j8, j9] [] n z G V Q :=
  lp_go (P0 := fun s V => ∀ j7 j8 j9 : Option Value, T X (2) 236 57 [some (.ref r0), some (.int (iI x1)), some (.int (iI x2)), some (.int (iI x3)), some (.int (iI x4)), some (.int (iI x5)), some (.int (iI s)), j7, j8, j9] [] n z G V Q) (PE := fun t s V => (t = 1 → ∀ j7 j8 j9 : Option Value, T X (2) 236 80 [some (.ref r0), some (.int (iI x1)), some (.int (iI x2)), some (.int (iI x3)), some (.int (iI x4)), some (.int (iI x5)), some (.int (iI s)), j7, j8, j9] [] n z G V Q)) (fun s V V' q hb h0 h1 => fun _ _ _ => tb_X10_odds_57 hr0  h0 (fun e => (h1 (by omega)) e) hb) fu x6 V V' q h k1 _ _ _

theorem tb_X10_odds_45 {X : mX} {n z : Nat} {G : mG} {r0 : Nat} (hr0 : is10 G r0) {x1 x2 x3 x4 x5 : Int} {j6 j7 j8 j9 : Option Value} {V V' : mV} {q : Nat × Int × Int} {Q : Nat → Nat → mG → mV → Option Value → Prop} (h0 : q.1 = 0 → ∀ j6 j7 j8 j9 : Option Value, T X (2) 236 45 [some (.ref r0), some (.int (iI x1)), some (.int (iI x2)), some (.int (iI x3)), some (.int (iI q.2.1)), some (.int (iI q.2.2)), j6, j7, j8, j9] [] n z G V' Q) (h1 : q.1 = 1 → ∀ j6 j7 j8 j9 : Option Value, T X (2) 236 104 [some (.ref r0), some (.int (iI x1)), some (.int (iI x2)), some (.int (iI x3)), some (.int (iI q.2.1)), some (.int (iI q.2.2)), j6, j7, j8, j9] [] n z G V' Q) (h : B_X10_odds_45 G r0 x1 x2 x3 x4 x5 V = some (V', q)) : T X (2) 236 45 [some (.ref r0), some (.int (iI x1)), some (.int (iI x2)), some (.int (iI x3)), some (.int (iI x4)), some (.int (iI x5)), j6, j7, j8, j9] [] n z G V Q := by
  unfold B_X10_odds_45 at h
  refine t_l fX10_odds_45 rfl rfl rfl rfl ?_
  refine t_l fX10_odds_47 rfl rfl rfl rfl ?_
  obtain ⟨V23, v24, e25, h⟩ := bd_some h
  refine kcX10_peopleMany fX10_odds_48 (hr0).1 rfl (q_X10_peopleMany (hr0) e25) (by decide) ?_
  obtain ⟨g27, h⟩ := gd_some h
  obtain ⟨g28, h⟩ := gd_some h
  refine k9_ic_ge fX10_odds_51 rfl g27 g28 (fun c26 => ?_) (fun c26 => ?_)
  · replace h := ite_t (c26) h
    cases h
    exact h1 rfl _ _ _ _
  · replace h := ite_f (c26) h
    refine t_s fX10_odds_54 rfl rfl rfl ?_
    refine t_l fX10_odds_55 rfl rfl rfl rfl ?_
    obtain ⟨V39, u40, e41, h⟩ := bd_some h
    refine tl_X10_odds_57 hr0  (fun e42 j7 j8 j9 => ?_) e41
    refine t_l fX10_odds_80 rfl rfl rfl rfl ?_
    refine t_l fX10_odds_81 rfl rfl rfl rfl ?_
    obtain ⟨V43, v44, e45, h⟩ := bd_some h
    refine kcX10_isCalled fX10_odds_83 (hr0).1 rfl (q_X10_isCalled (hr0) e45) (by decide) ?_
    refine t_l fX10_odds_86 rfl rfl rfl rfl ?_
    refine t_l fX10_odds_87 rfl rfl rfl rfl ?_
    obtain ⟨V46, v47, e48, h⟩ := bd_some h
    refine kcX10_livesNow fX10_odds_88 (hr0).1 rfl (q_X10_livesNow (hr0) e48) (by decide) ?_
    refine t_l fX10_odds_91 rfl rfl rfl rfl ?_
    obtain ⟨g50, h⟩ := gd_some h
    obtain ⟨g51, h⟩ := gd_some h
    refine k9_ic_ne fX10_odds_92 rfl g50 g51 (fun c49 => ?_) (fun c49 => ?_)
    · replace h := ite_f (c49) h
      replace h := lt_some h
      refine k9_iinc fX10_odds_98 rfl (Nat.le_of_ble_eq_true rfl) rfl ?_
      refine k9_goto fX10_odds_101 rfl ?_
      cases h
      exact h0 rfl _ _ _ _
    · replace h := ite_t (Classical.not_not.mp c49) h
      replace h := lt_some h
      refine k9_iinc fX10_odds_95 rfl (Nat.le_of_ble_eq_true rfl) rfl ?_
      replace h := lt_some h
      refine k9_iinc fX10_odds_98 rfl (Nat.le_of_ble_eq_true rfl) rfl ?_
      refine k9_goto fX10_odds_101 rfl ?_
      cases h
      exact h0 rfl _ _ _ _

theorem tl_X10_odds_45 {X : mX} {n z : Nat} {G : mG} {r0 : Nat} (hr0 : is10 G r0) {x1 x2 x3 x4 x5 : Int} {j6 j7 j8 j9 : Option Value} {V V' : mV} {fu : Nat} {q : Nat × Int × Int} {Q : Nat → Nat → mG → mV → Option Value → Prop} (k1 : q.1 = 1 → ∀ j6 j7 j8 j9 : Option Value, T X (2) 236 104 [some (.ref r0), some (.int (iI x1)), some (.int (iI x2)), some (.int (iI x3)), some (.int (iI q.2.1)), some (.int (iI q.2.2)), j6, j7, j8, j9] [] n z G V' Q) (h : lp (fun (s : Int × Int) V => B_X10_odds_45 G r0 x1 x2 x3 s.1 s.2 V) fu (x4, x5) V = some (V', q)) : T X (2) 236 45 [some (.ref r0), some (.int (iI x1)), some (.int (iI x2)), some (.int (iI x3)), some (.int (iI x4)), some (.int (iI x5)), j6, j7, j8, j9] [] n z G V Q :=
  lp_go (P0 := fun s V => ∀ j6 j7 j8 j9 : Option Value, T X (2) 236 45 [some (.ref r0), some (.int (iI x1)), some (.int (iI x2)), some (.int (iI x3)), some (.int (iI s.1)), some (.int (iI s.2)), j6, j7, j8, j9] [] n z G V Q) (PE := fun t s V => (t = 1 → ∀ j6 j7 j8 j9 : Option Value, T X (2) 236 104 [some (.ref r0), some (.int (iI x1)), some (.int (iI x2)), some (.int (iI x3)), some (.int (iI s.1)), some (.int (iI s.2)), j6, j7, j8, j9] [] n z G V Q)) (fun s V V' q hb h0 h1 => fun _ _ _ _ => tb_X10_odds_45 hr0  h0 (fun e => (h1 (by omega)) e) hb) fu (x4, x5) V V' q h k1 _ _ _ _

theorem tb_X10_odds_117 {X : mX} {n z : Nat} {G : mG} {r0 : Nat} (hr0 : is10 G r0) {x1 x2 x3 x4 x5 x7 x9 : Int} {V V' : mV} {q : Nat × Int × Int × Int} {Q : Nat → Nat → mG → mV → Option Value → Prop} (h0 : q.1 = 0 → T X (2) 236 117 [some (.ref r0), some (.int (iI x1)), some (.int (iI x2)), some (.int (iI x3)), some (.int (iI x4)), some (.long (lI q.2.1)), none, some (.long (lI q.2.2.1)), none, some (.int (iI q.2.2.2))] [] n z G V' Q) (h1 : q.1 = 1 → ∀ j4 : Option Value, T X (2) 236 152 [some (.ref r0), some (.int (iI x1)), some (.int (iI x2)), some (.int (iI x3)), j4, some (.long (lI q.2.1)), none, some (.long (lI q.2.2.1)), none, some (.int (iI q.2.2.2))] [] n z G V' Q) (h : B_X10_odds_117 G r0 x1 x2 x3 x4 x5 x7 x9 V = some (V', q)) : T X (2) 236 117 [some (.ref r0), some (.int (iI x1)), some (.int (iI x2)), some (.int (iI x3)), some (.int (iI x4)), some (.long (lI x5)), none, some (.long (lI x7)), none, some (.int (iI x9))] [] n z G V Q := by
  unfold B_X10_odds_117 at h
  refine t_l fX10_odds_117 rfl rfl rfl rfl ?_
  refine t_l fX10_odds_119 rfl rfl rfl rfl ?_
  obtain ⟨g63, h⟩ := gd_some h
  obtain ⟨g64, h⟩ := gd_some h
  refine k9_ic_ge fX10_odds_120 rfl g63 g64 (fun c62 => ?_) (fun c62 => ?_)
  · replace h := ite_t (c62) h
    cases h
    exact h1 rfl _
  · replace h := ite_f (c62) h
    refine t_l fX10_odds_123 rfl rfl rfl rfl ?_
    refine t_l fX10_odds_125 rfl rfl rfl rfl ?_
    obtain ⟨V65, v66, e67, h⟩ := bd_some h
    refine kcX10_peopleMany fX10_odds_126 (hr0).1 rfl (q_X10_peopleMany (hr0) e67) (by decide) ?_
    obtain ⟨g68, h⟩ := gd_some h
    refine k9_i2l fX10_odds_129 g68 ?_
    refine k9_lmul fX10_odds_130 ?_
    replace h := lt_some h
    refine t_l fX10_odds_131 rfl rfl rfl rfl ?_
    refine t_l fX10_odds_133 rfl rfl rfl rfl ?_
    refine t_l fX10_odds_135 rfl rfl rfl rfl ?_
    obtain ⟨V70, v71, e72, h⟩ := bd_some h
    refine kcX10_peopleMany fX10_odds_136 (hr0).1 rfl (q_X10_peopleMany (hr0) e72) (by decide) ?_
    refine t_l fX10_odds_139 rfl rfl rfl rfl ?_
    refine k9_isub fX10_odds_141 ?_
    obtain ⟨g73, h⟩ := gd_some h
    refine k9_i2l fX10_odds_142 g73 ?_
    refine k9_lmul fX10_odds_143 ?_
    replace h := lt_some h
    refine t_l fX10_odds_144 rfl rfl rfl rfl ?_
    replace h := lt_some h
    refine k9_iinc fX10_odds_146 rfl (Nat.le_of_ble_eq_true rfl) rfl ?_
    refine k9_goto fX10_odds_149 rfl ?_
    cases h
    exact h0 rfl

theorem tl_X10_odds_117 {X : mX} {n z : Nat} {G : mG} {r0 : Nat} (hr0 : is10 G r0) {x1 x2 x3 x4 x5 x7 x9 : Int} {V V' : mV} {fu : Nat} {q : Nat × Int × Int × Int} {Q : Nat → Nat → mG → mV → Option Value → Prop} (k1 : q.1 = 1 → ∀ j4 : Option Value, T X (2) 236 152 [some (.ref r0), some (.int (iI x1)), some (.int (iI x2)), some (.int (iI x3)), j4, some (.long (lI q.2.1)), none, some (.long (lI q.2.2.1)), none, some (.int (iI q.2.2.2))] [] n z G V' Q) (h : lp (fun (s : Int × Int × Int) V => B_X10_odds_117 G r0 x1 x2 x3 x4 s.1 s.2.1 s.2.2 V) fu (x5, x7, x9) V = some (V', q)) : T X (2) 236 117 [some (.ref r0), some (.int (iI x1)), some (.int (iI x2)), some (.int (iI x3)), some (.int (iI x4)), some (.long (lI x5)), none, some (.long (lI x7)), none, some (.int (iI x9))] [] n z G V Q :=
  lp_go (P0 := fun s V => T X (2) 236 117 [some (.ref r0), some (.int (iI x1)), some (.int (iI x2)), some (.int (iI x3)), some (.int (iI x4)), some (.long (lI s.1)), none, some (.long (lI s.2.1)), none, some (.int (iI s.2.2))] [] n z G V Q) (PE := fun t s V => (t = 1 → ∀ j4 : Option Value, T X (2) 236 152 [some (.ref r0), some (.int (iI x1)), some (.int (iI x2)), some (.int (iI x3)), j4, some (.long (lI s.1)), none, some (.long (lI s.2.1)), none, some (.int (iI s.2.2))] [] n z G V Q)) (fun s V V' q hb h0 h1 => tb_X10_odds_117 hr0  h0 (fun e => (h1 (by omega)) e) hb) fu (x5, x7, x9) V V' q h k1

theorem q_X10_odds {X : mX} {n z : Nat} {G : mG} {r0 : Nat} (hr0 : is10 G r0) {x1 x2 x3 : Int} {V V' : mV} {v : Int} (h : F_X10_odds G r0 x1 x2 x3 V = some (V', v)) : Rn X (2) 236 [.ref r0, .int (iI x1), .int (iI x2), .int (iI x3)] n z G V n z G V' (some (.int (iI v))) := by
  refine qi_toR (v := v) (L := [some (.ref r0), some (.int (iI x1)), some (.int (iI x2)), some (.int (iI x3)), none, none, none, none, none, none]) rfl ?_
  unfold F_X10_odds at h
  refine t_l fX10_odds_0 rfl rfl rfl rfl ?_
  refine t_l fX10_odds_1 rfl rfl rfl rfl ?_
  obtain ⟨V1, v2, e3, h⟩ := bd_some h
  refine kcX10_isPerson fX10_odds_2 (hr0).1 rfl (q_X10_isPerson (hr0) e3) (by decide) ?_
  obtain ⟨g5, h⟩ := gd_some h
  refine k9_if_eq fX10_odds_5 rfl g5 (fun c4 => ?_) (fun c4 => ?_)
  · replace h := ite_t (c4) h
    refine t_s fX10_odds_33 rfl rfl rfl ?_
    refine t_ret fX10_odds_34 rX10_odds ?_
    exact qf_i h
  · replace h := ite_f (c4) h
    refine t_l fX10_odds_8 rfl rfl rfl rfl ?_
    refine t_l fX10_odds_9 rfl rfl rfl rfl ?_
    obtain ⟨V6, v7, e8, h⟩ := bd_some h
    refine kcX10_isPerson fX10_odds_10 (hr0).1 rfl (q_X10_isPerson (hr0) e8) (by decide) ?_
    obtain ⟨g10, h⟩ := gd_some h
    refine k9_if_eq fX10_odds_13 rfl g10 (fun c9 => ?_) (fun c9 => ?_)
    · replace h := ite_t (c9) h
      refine t_s fX10_odds_33 rfl rfl rfl ?_
      refine t_ret fX10_odds_34 rX10_odds ?_
      exact qf_i h
    · replace h := ite_f (c9) h
      refine t_l fX10_odds_16 rfl rfl rfl rfl ?_
      refine t_l fX10_odds_17 rfl rfl rfl rfl ?_
      obtain ⟨g12, h⟩ := gd_some h
      obtain ⟨g13, h⟩ := gd_some h
      refine k9_ic_eq fX10_odds_18 rfl g12 g13 (fun c11 => ?_) (fun c11 => ?_)
      · replace h := ite_t (c11) h
        refine t_s fX10_odds_33 rfl rfl rfl ?_
        refine t_ret fX10_odds_34 rX10_odds ?_
        exact qf_i h
      · replace h := ite_f (c11) h
        refine t_l fX10_odds_21 rfl rfl rfl rfl ?_
        obtain ⟨g14, h⟩ := gd_some h
        refine k9_i2l fX10_odds_22 g14 ?_
        refine t_s fX10_odds_23 rfl rfl rfl ?_
        refine t_s fX10_odds_24 rfl rfl rfl ?_
        obtain ⟨V15, v16, e17, h⟩ := bd_some h
        refine kcX10_isIn fX10_odds_27 rfl (q_X10_isIn  e17) (by decide) ?_
        obtain ⟨g19, h⟩ := gd_some h
        refine k9_if_ne fX10_odds_30 rfl g19 (fun c18 => ?_) (fun c18 => ?_)
        · replace h := ite_f (c18) h
          refine t_s fX10_odds_35 rfl rfl rfl ?_
          refine t_l fX10_odds_36 rfl rfl rfl rfl ?_
          refine t_l fX10_odds_38 rfl rfl rfl rfl ?_
          obtain ⟨V20, v21, e22, h⟩ := bd_some h
          refine kcX10_putsAside fX10_odds_39 (hr0).1 rfl (q_X10_putsAside (hr0) e22) (by decide) ?_
          refine t_s fX10_odds_42 rfl rfl rfl ?_
          refine t_l fX10_odds_43 rfl rfl rfl rfl ?_
          obtain ⟨V55, u56, e57, h⟩ := bd_some h
          refine tl_X10_odds_45 hr0  (fun e58 j6 j7 j8 j9 => ?_) e57
          refine t_l fX10_odds_104 rfl rfl rfl rfl ?_
          obtain ⟨V59, v60, e61, h⟩ := bd_some h
          refine kcX10_takesBack fX10_odds_105 (hr0).1 rfl (q_X10_takesBack (hr0) e61) (by decide) ?_
          refine t_s fX10_odds_108 rfl rfl rfl ?_
          refine t_l fX10_odds_109 rfl rfl rfl rfl ?_
          refine t_s fX10_odds_111 rfl rfl rfl ?_
          refine t_l fX10_odds_112 rfl rfl rfl rfl ?_
          refine t_s fX10_odds_114 rfl rfl rfl ?_
          refine t_l fX10_odds_115 rfl rfl rfl rfl ?_
          obtain ⟨V76, u77, e78, h⟩ := bd_some h
          refine tl_X10_odds_117 hr0  (fun e79 j4 => ?_) e78
          refine t_s fX10_odds_152 rfl rfl rfl ?_
          refine t_l fX10_odds_155 rfl rfl rfl rfl ?_
          refine t_l fX10_odds_157 rfl rfl rfl rfl ?_
          refine k9_lsub fX10_odds_159 ?_
          refine k9_lmul fX10_odds_160 ?_
          refine t_l fX10_odds_161 rfl rfl rfl rfl ?_
          obtain ⟨g80, h⟩ := gd_some h
          obtain ⟨g81, h⟩ := gd_some h
          obtain ⟨g82, h⟩ := gd_some h
          refine k9_ldiv fX10_odds_163 g80 g81 g82 ?_
          refine k9_l2i fX10_odds_164 ?_
          refine t_ret fX10_odds_165 rX10_odds ?_
          exact qf_i h
        · replace h := ite_t (Classical.not_not.mp c18) h
          refine t_s fX10_odds_33 rfl rfl rfl ?_
          refine t_ret fX10_odds_34 rX10_odds ?_
          exact qf_i h

theorem tb_X10_keeps_15 {X : mX} {n z : Nat} {G : mG} {r0 : Nat} (hr0 : is10 G r0) {x1 : Int} {V V' : mV} {q : Nat × Int} {Q : Nat → Nat → mG → mV → Option Value → Prop} (h0 : q.1 = 0 → T X (0) 237 15 [some (.ref r0), some (.int (iI q.2))] [] n z G V' Q) (h1 : q.1 = 1 → T X (0) 237 49 [some (.ref r0), some (.int (iI q.2))] [] n z G V' Q) (h : B_X10_keeps_15 G r0 x1 V = some (V', q)) : T X (0) 237 15 [some (.ref r0), some (.int (iI x1))] [] n z G V Q := by
  unfold B_X10_keeps_15 at h
  refine t_l fX10_keeps_15 rfl rfl rfl rfl ?_
  refine t_s fX10_keeps_16 rfl rfl rfl ?_
  obtain ⟨g4, h⟩ := gd_some h
  refine k9_ic_ge fX10_keeps_19 rfl g4 ⟨by decide, by decide⟩ (fun c3 => ?_) (fun c3 => ?_)
  · replace h := ite_t (c3) h
    cases h
    exact h1 rfl
  · replace h := ite_f (c3) h
    refine t_l fX10_keeps_22 rfl rfl rfl rfl ?_
    refine k9_gr fX10_keeps_23 (hr0).1 kg_10_68 (s10_68r hr0) ?_
    refine t_s fX10_keeps_26 rfl rfl rfl ?_
    refine t_l fX10_keeps_29 rfl rfl rfl rfl ?_
    refine k9_gi fX10_keeps_30 (hr0).1 kg_10_70 ?_
    refine k9_imul fX10_keeps_33 ?_
    refine t_l fX10_keeps_34 rfl rfl rfl rfl ?_
    refine k9_iadd fX10_keeps_35 ?_
    refine t_l fX10_keeps_36 rfl rfl rfl rfl ?_
    refine k9_gr fX10_keeps_37 (hr0).1 kg_10_49 (s10_49r hr0) ?_
    refine t_l fX10_keeps_40 rfl rfl rfl rfl ?_
    obtain ⟨g5, h⟩ := gd_some h
    refine k9_ia fX10_keeps_41 (s10_49s hr0) g5.1 g5.2.1 g5.2.2 ?_
    obtain ⟨g6, h⟩ := gd_some h
    refine k9_is fX10_keeps_42 (s10_68s hr0) g6.1 g6.2.1 g6.2.2 ?_
    replace h := lt_some h
    replace h := lt_some h
    refine k9_iinc fX10_keeps_43 rfl (Nat.le_of_ble_eq_true rfl) rfl ?_
    refine k9_goto fX10_keeps_46 rfl ?_
    cases h
    exact h0 rfl

theorem tl_X10_keeps_15 {X : mX} {n z : Nat} {G : mG} {r0 : Nat} (hr0 : is10 G r0) {x1 : Int} {V V' : mV} {fu : Nat} {q : Nat × Int} {Q : Nat → Nat → mG → mV → Option Value → Prop} (k1 : q.1 = 1 → T X (0) 237 49 [some (.ref r0), some (.int (iI q.2))] [] n z G V' Q) (h : lp (fun (s : Int) V => B_X10_keeps_15 G r0 s V) fu x1 V = some (V', q)) : T X (0) 237 15 [some (.ref r0), some (.int (iI x1))] [] n z G V Q :=
  lp_go (P0 := fun s V => T X (0) 237 15 [some (.ref r0), some (.int (iI s))] [] n z G V Q) (PE := fun t s V => (t = 1 → T X (0) 237 49 [some (.ref r0), some (.int (iI s))] [] n z G V Q)) (fun s V V' q hb h0 h1 => tb_X10_keeps_15 hr0  h0 (fun e => (h1 (by omega)) e) hb) fu x1 V V' q h k1

theorem q_X10_keeps {X : mX} {n z : Nat} {G : mG} {r0 : Nat} (hr0 : is10 G r0) {V V' : mV} {v : Int} (h : F_X10_keeps G r0 V = some (V', v)) : Rn X (0) 237 [.ref r0] n z G V n z G V' none := by
  refine qv_toR (v := v) (L := [some (.ref r0), none]) rfl ?_
  unfold F_X10_keeps at h
  refine t_l fX10_keeps_0 rfl rfl rfl rfl ?_
  refine t_l fX10_keeps_1 rfl rfl rfl rfl ?_
  refine k9_gi fX10_keeps_2 (hr0).1 kg_10_70 ?_
  refine t_s fX10_keeps_5 rfl rfl rfl ?_
  refine k9_iadd fX10_keeps_6 ?_
  refine t_s fX10_keeps_7 rfl rfl rfl ?_
  obtain ⟨g1, h⟩ := gd_some h
  refine k9_irem fX10_keeps_9 g1 ⟨by decide, by decide⟩ (by decide) ?_
  refine k9_pi fX10_keeps_10 (hr0).1 kp_10_70 ?_
  replace h := lt_some h
  refine t_s fX10_keeps_13 rfl rfl rfl ?_
  refine t_l fX10_keeps_14 rfl rfl rfl rfl ?_
  obtain ⟨V9, u10, e11, h⟩ := bd_some h
  refine tl_X10_keeps_15 hr0  (fun e12 => ?_) e11
  refine t_l fX10_keeps_49 rfl rfl rfl rfl ?_
  refine k9_gi fX10_keeps_50 (hr0).1 kg_10_69 ?_
  refine t_s fX10_keeps_53 rfl rfl rfl ?_
  obtain ⟨g14, h⟩ := gd_some h
  refine k9_ic_ge fX10_keeps_55 rfl g14 ⟨by decide, by decide⟩ (fun c13 => ?_) (fun c13 => ?_)
  · replace h := ite_t (c13) h
    refine t_ret fX10_keeps_68 rX10_keeps ?_
    exact qf_v h
  · replace h := ite_f (c13) h
    refine t_l fX10_keeps_58 rfl rfl rfl rfl ?_
    refine t_s fX10_keeps_59 rfl rfl rfl ?_
    refine k9_gi fX10_keeps_60 (hr0).1 kg_10_69 ?_
    refine t_s fX10_keeps_63 rfl rfl rfl ?_
    refine k9_iadd fX10_keeps_64 ?_
    refine k9_pi fX10_keeps_65 (hr0).1 kp_10_69 ?_
    replace h := lt_some h
    refine t_ret fX10_keeps_68 rX10_keeps ?_
    exact qf_v h

theorem tb_X10_undo_21 {X : mX} {n z : Nat} {G : mG} {r0 : Nat} (hr0 : is10 G r0) {x1 : Int} {V V' : mV} {q : Nat × Int} {Q : Nat → Nat → mG → mV → Option Value → Prop} (h0 : q.1 = 0 → T X (0) 238 21 [some (.ref r0), some (.int (iI q.2))] [] n z G V' Q) (h1 : q.1 = 1 → T X (0) 238 55 [some (.ref r0), some (.int (iI q.2))] [] n z G V' Q) (h : B_X10_undo_21 G r0 x1 V = some (V', q)) : T X (0) 238 21 [some (.ref r0), some (.int (iI x1))] [] n z G V Q := by
  unfold B_X10_undo_21 at h
  refine t_l fX10_undo_21 rfl rfl rfl rfl ?_
  refine t_s fX10_undo_22 rfl rfl rfl ?_
  obtain ⟨g4, h⟩ := gd_some h
  refine k9_ic_ge fX10_undo_25 rfl g4 ⟨by decide, by decide⟩ (fun c3 => ?_) (fun c3 => ?_)
  · replace h := ite_t (c3) h
    cases h
    exact h1 rfl
  · replace h := ite_f (c3) h
    refine t_l fX10_undo_28 rfl rfl rfl rfl ?_
    refine k9_gr fX10_undo_29 (hr0).1 kg_10_49 (s10_49r hr0) ?_
    refine t_l fX10_undo_32 rfl rfl rfl rfl ?_
    refine t_l fX10_undo_33 rfl rfl rfl rfl ?_
    refine k9_gr fX10_undo_34 (hr0).1 kg_10_68 (s10_68r hr0) ?_
    refine t_s fX10_undo_37 rfl rfl rfl ?_
    refine t_l fX10_undo_40 rfl rfl rfl rfl ?_
    refine k9_gi fX10_undo_41 (hr0).1 kg_10_70 ?_
    refine k9_imul fX10_undo_44 ?_
    refine t_l fX10_undo_45 rfl rfl rfl rfl ?_
    refine k9_iadd fX10_undo_46 ?_
    obtain ⟨g5, h⟩ := gd_some h
    refine k9_ia fX10_undo_47 (s10_68s hr0) g5.1 g5.2.1 g5.2.2 ?_
    obtain ⟨g6, h⟩ := gd_some h
    refine k9_is fX10_undo_48 (s10_49s hr0) g6.1 g6.2.1 g6.2.2 ?_
    replace h := lt_some h
    replace h := lt_some h
    refine k9_iinc fX10_undo_49 rfl (Nat.le_of_ble_eq_true rfl) rfl ?_
    refine k9_goto fX10_undo_52 rfl ?_
    cases h
    exact h0 rfl

theorem tl_X10_undo_21 {X : mX} {n z : Nat} {G : mG} {r0 : Nat} (hr0 : is10 G r0) {x1 : Int} {V V' : mV} {fu : Nat} {q : Nat × Int} {Q : Nat → Nat → mG → mV → Option Value → Prop} (k1 : q.1 = 1 → T X (0) 238 55 [some (.ref r0), some (.int (iI q.2))] [] n z G V' Q) (h : lp (fun (s : Int) V => B_X10_undo_21 G r0 s V) fu x1 V = some (V', q)) : T X (0) 238 21 [some (.ref r0), some (.int (iI x1))] [] n z G V Q :=
  lp_go (P0 := fun s V => T X (0) 238 21 [some (.ref r0), some (.int (iI s))] [] n z G V Q) (PE := fun t s V => (t = 1 → T X (0) 238 55 [some (.ref r0), some (.int (iI s))] [] n z G V Q)) (fun s V V' q hb h0 h1 => tb_X10_undo_21 hr0  h0 (fun e => (h1 (by omega)) e) hb) fu x1 V V' q h k1

theorem q_X10_undo {X : mX} {n z : Nat} {G : mG} {r0 : Nat} (hr0 : is10 G r0) {V V' : mV} {v : Int} (h : F_X10_undo G r0 V = some (V', v)) : Rn X (0) 238 [.ref r0] n z G V n z G V' (some (.int (iI v))) := by
  refine qi_toR (v := v) (L := [some (.ref r0), none]) rfl ?_
  unfold F_X10_undo at h
  refine t_l fX10_undo_0 rfl rfl rfl rfl ?_
  refine k9_gi fX10_undo_1 (hr0).1 kg_10_69 ?_
  obtain ⟨g2, h⟩ := gd_some h
  refine k9_if_ne fX10_undo_4 rfl g2 (fun c1 => ?_) (fun c1 => ?_)
  · replace h := ite_f (c1) h
    refine t_s fX10_undo_19 rfl rfl rfl ?_
    refine t_l fX10_undo_20 rfl rfl rfl rfl ?_
    obtain ⟨V9, u10, e11, h⟩ := bd_some h
    refine tl_X10_undo_21 hr0  (fun e12 => ?_) e11
    refine t_l fX10_undo_55 rfl rfl rfl rfl ?_
    refine t_l fX10_undo_56 rfl rfl rfl rfl ?_
    refine k9_gi fX10_undo_57 (hr0).1 kg_10_70 ?_
    refine t_s fX10_undo_60 rfl rfl rfl ?_
    refine k9_iadd fX10_undo_62 ?_
    refine t_s fX10_undo_63 rfl rfl rfl ?_
    refine k9_isub fX10_undo_64 ?_
    refine t_s fX10_undo_65 rfl rfl rfl ?_
    obtain ⟨g13, h⟩ := gd_some h
    refine k9_irem fX10_undo_67 g13 ⟨by decide, by decide⟩ (by decide) ?_
    refine k9_pi fX10_undo_68 (hr0).1 kp_10_70 ?_
    replace h := lt_some h
    refine t_l fX10_undo_71 rfl rfl rfl rfl ?_
    refine t_s fX10_undo_72 rfl rfl rfl ?_
    refine k9_gi fX10_undo_73 (hr0).1 kg_10_69 ?_
    refine t_s fX10_undo_76 rfl rfl rfl ?_
    refine k9_isub fX10_undo_77 ?_
    refine k9_pi fX10_undo_78 (hr0).1 kp_10_69 ?_
    replace h := lt_some h
    refine t_s fX10_undo_81 rfl rfl rfl ?_
    refine t_ret fX10_undo_82 (rX10_undo _ (by decide)) ?_
    exact qf_i h
  · replace h := ite_t (Classical.not_not.mp c1) h
    refine t_l fX10_undo_7 rfl rfl rfl rfl ?_
    refine k9_gr fX10_undo_8 (hr0).1 kg_10_9 (s10_9r hr0) ?_
    refine t_s fX10_undo_11 rfl rfl rfl ?_
    refine t_s fX10_undo_12 rfl rfl rfl ?_
    refine k9_ia fX10_undo_13 (s10_9s hr0) (by decide) (by decide) (by decide) ?_
    refine t_s fX10_undo_14 rfl rfl rfl ?_
    refine k9_iadd fX10_undo_15 ?_
    refine k9_is fX10_undo_16 (s10_9s hr0) (by decide) (by decide) (by decide) ?_
    replace h := lt_some h
    refine t_s fX10_undo_17 rfl rfl rfl ?_
    refine t_ret fX10_undo_18 (rX10_undo _ (by decide)) ?_
    exact qf_i h

theorem q_X10_refuses {X : mX} {n z : Nat} {G : mG} {r0 : Nat} (hr0 : is10 G r0) {x1 : Int} {V V' : mV} {v : Int} (h : F_X10_refuses G r0 x1 V = some (V', v)) : Rn X (0) 239 [.ref r0, .int (iI x1)] n z G V n z G V' (some (.int (iI v))) := by
  refine qi_toR (v := v) (L := [some (.ref r0), some (.int (iI x1))]) rfl ?_
  unfold F_X10_refuses at h
  refine t_l fX10_refuses_0 rfl rfl rfl rfl ?_
  refine k9_gr fX10_refuses_1 (hr0).1 kg_10_9 (s10_9r hr0) ?_
  refine t_l fX10_refuses_4 rfl rfl rfl rfl ?_
  refine t_s fX10_refuses_5 rfl rfl rfl ?_
  obtain ⟨g1, h⟩ := gd_some h
  refine k9_ia fX10_refuses_6 (s10_9s hr0) g1.1 g1.2.1 g1.2.2 ?_
  refine t_s fX10_refuses_7 rfl rfl rfl ?_
  refine k9_iadd fX10_refuses_8 ?_
  refine k9_is fX10_refuses_9 (s10_9s hr0) g1.1 g1.2.1 g1.2.2 ?_
  replace h := lt_some h
  refine t_s fX10_refuses_10 rfl rfl rfl ?_
  refine t_ret fX10_refuses_11 rX10_refuses ?_
  exact qf_i h

theorem tj_X10_go_J26 {X : mX} {n z : Nat} {G : mG} {r0 : Nat} (hr0 : is10 G r0) {x1 : Int} {V V' : mV} {v : Int} (h : F_X10_go_J26 G r0 x1 V = some (V', v)) : T X (8) 240 26 [some (.ref r0), some (.int (iI x1))] [] n z G V (qi n z G V' v) := by
  unfold F_X10_go_J26 at h
  refine t_l fX10_go_26 rfl rfl rfl rfl ?_
  refine t_s fX10_go_27 rfl rfl rfl ?_
  obtain ⟨V7, v8, e9, h⟩ := bd_some h
  refine kcX10_refuses fX10_go_28 (hr0).1 rfl (q_X10_refuses (hr0) e9) (by decide) ?_
  refine t_ret fX10_go_31 rX10_go ?_
  exact qf_i h

theorem q_X10_go {X : mX} {n z : Nat} {G : mG} {r0 : Nat} (hr0 : is10 G r0) {x1 : Int} {V V' : mV} {v : Int} (h : F_X10_go G r0 x1 V = some (V', v)) : Rn X (8) 240 [.ref r0, .int (iI x1)] n z G V n z G V' (some (.int (iI v))) := by
  refine qi_toR (v := v) (L := [some (.ref r0), some (.int (iI x1))]) rfl ?_
  unfold F_X10_go at h
  refine t_l fX10_go_0 rfl rfl rfl rfl ?_
  obtain ⟨g1, h⟩ := gd_some h
  refine k9_i2l fX10_go_1 g1 ?_
  refine t_s fX10_go_2 rfl rfl rfl ?_
  refine t_s fX10_go_3 rfl rfl rfl ?_
  obtain ⟨V2, v3, e4, h⟩ := bd_some h
  refine kcX10_isIn fX10_go_6 rfl (q_X10_isIn  e4) (by decide) ?_
  obtain ⟨g6, h⟩ := gd_some h
  refine k9_if_eq fX10_go_9 rfl g6 (fun c5 => ?_) (fun c5 => ?_)
  · replace h := ite_t (c5) h
    exact tj_X10_go_J26 hr0   h
  · replace h := ite_f (c5) h
    refine t_l fX10_go_12 rfl rfl rfl rfl ?_
    refine k9_gr fX10_go_13 (hr0).1 kg_10_49 (s10_49r hr0) ?_
    refine t_s fX10_go_16 rfl rfl rfl ?_
    refine k9_ia fX10_go_17 (s10_49s hr0) (by decide) (by decide) (by decide) ?_
    refine t_l fX10_go_18 rfl rfl rfl rfl ?_
    refine k9_iadd fX10_go_19 ?_
    refine t_s fX10_go_20 rfl rfl rfl ?_
    obtain ⟨g11, h⟩ := gd_some h
    refine k9_ic_le fX10_go_23 rfl g11 ⟨by decide, by decide⟩ (fun c10 => ?_) (fun c10 => ?_)
    · replace h := ite_t (c10) h
      refine t_l fX10_go_32 rfl rfl rfl rfl ?_
      obtain ⟨V12, v13, e14, h⟩ := bd_some h
      refine kcX10_keeps fX10_go_33 (hr0).1 rfl (q_X10_keeps (hr0) e14) (by decide) ?_
      refine t_l fX10_go_36 rfl rfl rfl rfl ?_
      refine t_l fX10_go_37 rfl rfl rfl rfl ?_
      obtain ⟨V15, v16, e17, h⟩ := bd_some h
      refine kcX10_hoursCome fX10_go_38 (hr0).1 rfl (q_X10_hoursCome (hr0) e17) (by decide) ?_
      refine t_l fX10_go_41 rfl rfl rfl rfl ?_
      refine k9_gr fX10_go_42 (hr0).1 kg_10_49 (s10_49r hr0) ?_
      refine t_s fX10_go_45 rfl rfl rfl ?_
      refine k9_ia fX10_go_46 (s10_49s hr0) (by decide) (by decide) (by decide) ?_
      refine t_ret fX10_go_47 rX10_go ?_
      exact qf_i h
    · replace h := ite_f (c10) h
      exact tj_X10_go_J26 hr0   h

theorem q_X10_call {X : mX} {n z : Nat} {G : mG} {r0 : Nat} (hr0 : is10 G r0) {x1 : Int} {V V' : mV} {v : Int} (h : F_X10_call G r0 x1 V = some (V', v)) : Rn X (3) 241 [.ref r0, .int (iI x1)] n z G V n z G V' (some (.int (iI v))) := by
  refine qi_toR (v := v) (L := [some (.ref r0), some (.int (iI x1))]) rfl ?_
  unfold F_X10_call at h
  refine t_l fX10_call_0 rfl rfl rfl rfl ?_
  refine t_l fX10_call_1 rfl rfl rfl rfl ?_
  obtain ⟨V1, v2, e3, h⟩ := bd_some h
  refine kcX10_isHere0 fX10_call_2 (hr0).1 rfl (q_X10_isHere0 (hr0) e3) (by decide) ?_
  obtain ⟨g5, h⟩ := gd_some h
  refine k9_if_ne fX10_call_5 rfl g5 (fun c4 => ?_) (fun c4 => ?_)
  · replace h := ite_f (c4) h
    refine t_l fX10_call_14 rfl rfl rfl rfl ?_
    obtain ⟨V6, v7, e8, h⟩ := bd_some h
    refine kcX10_keeps fX10_call_15 (hr0).1 rfl (q_X10_keeps (hr0) e8) (by decide) ?_
    refine t_l fX10_call_18 rfl rfl rfl rfl ?_
    refine t_l fX10_call_19 rfl rfl rfl rfl ?_
    obtain ⟨V9, v10, e11, h⟩ := bd_some h
    refine kcX10_isCalled fX10_call_20 (hr0).1 rfl (q_X10_isCalled (hr0) e11) (by decide) ?_
    refine t_l fX10_call_23 rfl rfl rfl rfl ?_
    refine k9_gi fX10_call_24 (hr0).1 kg_10_64 ?_
    refine t_ret fX10_call_27 rX10_call ?_
    exact qf_i h
  · replace h := ite_t (Classical.not_not.mp c4) h
    refine t_l fX10_call_8 rfl rfl rfl rfl ?_
    refine t_s fX10_call_9 rfl rfl rfl ?_
    obtain ⟨V12, v13, e14, h⟩ := bd_some h
    refine kcX10_refuses fX10_call_10 (hr0).1 rfl (q_X10_refuses (hr0) e14) (by decide) ?_
    refine t_ret fX10_call_13 rX10_call ?_
    exact qf_i h

theorem tj_X10_watch_J35 {X : mX} {n z : Nat} {G : mG} {r0 : Nat} (hr0 : is10 G r0) {x1 x2 : Int} {V V' : mV} {v : Int} (h : F_X10_watch_J35 G r0 x1 x2 V = some (V', v)) : T X (2) 242 35 [some (.ref r0), some (.int (iI x1)), some (.int (iI x2))] [] n z G V (qi n z G V' v) := by
  unfold F_X10_watch_J35 at h
  refine t_l fX10_watch_35 rfl rfl rfl rfl ?_
  refine k9_gr fX10_watch_36 (hr0).1 kg_10_9 (s10_9r hr0) ?_
  refine t_s fX10_watch_39 rfl rfl rfl ?_
  refine t_s fX10_watch_40 rfl rfl rfl ?_
  refine k9_ia fX10_watch_41 (s10_9s hr0) (by decide) (by decide) (by decide) ?_
  refine t_s fX10_watch_42 rfl rfl rfl ?_
  refine k9_iadd fX10_watch_43 ?_
  refine k9_is fX10_watch_44 (s10_9s hr0) (by decide) (by decide) (by decide) ?_
  replace h := lt_some h
  refine t_s fX10_watch_45 rfl rfl rfl ?_
  refine t_ret fX10_watch_46 (rX10_watch _ (by decide)) ?_
  exact qf_i h

theorem tj_X10_watch_J21 {X : mX} {n z : Nat} {G : mG} {r0 : Nat} (hr0 : is10 G r0) {x1 x2 : Int} {V V' : mV} {v : Int} (h : F_X10_watch_J21 G r0 x1 x2 V = some (V', v)) : T X (2) 242 21 [some (.ref r0), some (.int (iI x1)), some (.int (iI x2))] [] n z G V (qi n z G V' v) := by
  unfold F_X10_watch_J21 at h
  refine t_l fX10_watch_21 rfl rfl rfl rfl ?_
  refine t_l fX10_watch_22 rfl rfl rfl rfl ?_
  obtain ⟨g10, h⟩ := gd_some h
  obtain ⟨g11, h⟩ := gd_some h
  refine k9_ic_eq fX10_watch_23 rfl g10 g11 (fun c9 => ?_) (fun c9 => ?_)
  · replace h := ite_t (c9) h
    exact tj_X10_watch_J35 hr0   h
  · replace h := ite_f (c9) h
    refine t_l fX10_watch_26 rfl rfl rfl rfl ?_
    refine t_l fX10_watch_27 rfl rfl rfl rfl ?_
    obtain ⟨V12, v13, e14, h⟩ := bd_some h
    refine kcX10_watches fX10_watch_28 (hr0).1 rfl (q_X10_watches (hr0) e14) (by decide) ?_
    refine t_l fX10_watch_31 rfl rfl rfl rfl ?_
    obtain ⟨g16, h⟩ := gd_some h
    refine k9_ic_ne fX10_watch_32 rfl g16 g11 (fun c15 => ?_) (fun c15 => ?_)
    · replace h := ite_f (c15) h
      refine t_l fX10_watch_47 rfl rfl rfl rfl ?_
      obtain ⟨V17, v18, e19, h⟩ := bd_some h
      refine kcX10_keeps fX10_watch_48 (hr0).1 rfl (q_X10_keeps (hr0) e19) (by decide) ?_
      refine t_l fX10_watch_51 rfl rfl rfl rfl ?_
      refine k9_gr fX10_watch_52 (hr0).1 kg_10_49 (s10_49r hr0) ?_
      refine t_s fX10_watch_55 rfl rfl rfl ?_
      refine t_s fX10_watch_56 rfl rfl rfl ?_
      refine t_l fX10_watch_58 rfl rfl rfl rfl ?_
      refine k9_imul fX10_watch_59 ?_
      refine k9_iadd fX10_watch_60 ?_
      refine t_l fX10_watch_61 rfl rfl rfl rfl ?_
      obtain ⟨g20, h⟩ := gd_some h
      refine k9_is fX10_watch_62 (s10_49s hr0) g20.1 g20.2.1 g20.2.2 ?_
      replace h := lt_some h
      refine t_s fX10_watch_63 rfl rfl rfl ?_
      refine t_ret fX10_watch_64 (rX10_watch _ (by decide)) ?_
      exact qf_i h
    · replace h := ite_t (Classical.not_not.mp c15) h
      exact tj_X10_watch_J35 hr0   h

theorem q_X10_watch {X : mX} {n z : Nat} {G : mG} {r0 : Nat} (hr0 : is10 G r0) {x1 x2 : Int} {V V' : mV} {v : Int} (h : F_X10_watch G r0 x1 x2 V = some (V', v)) : Rn X (2) 242 [.ref r0, .int (iI x1), .int (iI x2)] n z G V n z G V' (some (.int (iI v))) := by
  refine qi_toR (v := v) (L := [some (.ref r0), some (.int (iI x1)), some (.int (iI x2))]) rfl ?_
  unfold F_X10_watch at h
  refine t_l fX10_watch_0 rfl rfl rfl rfl ?_
  refine t_l fX10_watch_1 rfl rfl rfl rfl ?_
  obtain ⟨V1, v2, e3, h⟩ := bd_some h
  refine kcX10_isPerson fX10_watch_2 (hr0).1 rfl (q_X10_isPerson (hr0) e3) (by decide) ?_
  obtain ⟨g5, h⟩ := gd_some h
  refine k9_if_eq fX10_watch_5 rfl g5 (fun c4 => ?_) (fun c4 => ?_)
  · replace h := ite_t (c4) h
    exact tj_X10_watch_J35 hr0   h
  · replace h := ite_f (c4) h
    refine t_l fX10_watch_8 rfl rfl rfl rfl ?_
    refine t_s fX10_watch_9 rfl rfl rfl ?_
    obtain ⟨g8, h⟩ := gd_some h
    refine k9_ic_eq fX10_watch_10 rfl g8 ⟨by decide, by decide⟩ (fun c7 => ?_) (fun c7 => ?_)
    · replace h := ite_t (c7) h
      exact tj_X10_watch_J21 hr0   h
    · replace h := ite_f (c7) h
      refine t_l fX10_watch_13 rfl rfl rfl rfl ?_
      refine t_l fX10_watch_14 rfl rfl rfl rfl ?_
      obtain ⟨V22, v23, e24, h⟩ := bd_some h
      refine kcX10_isPerson fX10_watch_15 (hr0).1 rfl (q_X10_isPerson (hr0) e24) (by decide) ?_
      obtain ⟨g26, h⟩ := gd_some h
      refine k9_if_eq fX10_watch_18 rfl g26 (fun c25 => ?_) (fun c25 => ?_)
      · replace h := ite_t (c25) h
        exact tj_X10_watch_J35 hr0   h
      · replace h := ite_f (c25) h
        exact tj_X10_watch_J21 hr0   h

theorem tj_X10_teach_J33 {X : mX} {n z : Nat} {G : mG} {r0 : Nat} (hr0 : is10 G r0) {x1 x2 x3 : Int} {j4 : Option Value} {V V' : mV} {v : Int} (h : F_X10_teach_J33 G r0 x1 x2 x3 V = some (V', v)) : T X (2) 243 33 [some (.ref r0), some (.int (iI x1)), some (.int (iI x2)), some (.int (iI x3)), j4] [] n z G V (qi n z G V' v) := by
  unfold F_X10_teach_J33 at h
  refine t_l fX10_teach_33 rfl rfl rfl rfl ?_
  refine t_s fX10_teach_34 rfl rfl rfl ?_
  obtain ⟨V6, v7, e8, h⟩ := bd_some h
  refine kcX10_refuses fX10_teach_35 (hr0).1 rfl (q_X10_refuses (hr0) e8) (by decide) ?_
  refine t_ret fX10_teach_38 rX10_teach ?_
  exact qf_i h

theorem q_X10_teach {X : mX} {n z : Nat} {G : mG} {r0 : Nat} (hr0 : is10 G r0) {x1 x2 x3 : Int} {V V' : mV} {v : Int} (h : F_X10_teach G r0 x1 x2 x3 V = some (V', v)) : Rn X (2) 243 [.ref r0, .int (iI x1), .int (iI x2), .int (iI x3)] n z G V n z G V' (some (.int (iI v))) := by
  refine qi_toR (v := v) (L := [some (.ref r0), some (.int (iI x1)), some (.int (iI x2)), some (.int (iI x3)), none]) rfl ?_
  unfold F_X10_teach at h
  refine t_l fX10_teach_0 rfl rfl rfl rfl ?_
  refine t_l fX10_teach_1 rfl rfl rfl rfl ?_
  obtain ⟨V1, v2, e3, h⟩ := bd_some h
  refine kcX10_isPerson fX10_teach_2 (hr0).1 rfl (q_X10_isPerson (hr0) e3) (by decide) ?_
  obtain ⟨g5, h⟩ := gd_some h
  refine k9_if_eq fX10_teach_5 rfl g5 (fun c4 => ?_) (fun c4 => ?_)
  · replace h := ite_t (c4) h
    exact tj_X10_teach_J33 hr0   h
  · replace h := ite_f (c4) h
    refine t_l fX10_teach_8 rfl rfl rfl rfl ?_
    refine t_l fX10_teach_9 rfl rfl rfl rfl ?_
    obtain ⟨V9, v10, e11, h⟩ := bd_some h
    refine kcX10_isPerson fX10_teach_10 (hr0).1 rfl (q_X10_isPerson (hr0) e11) (by decide) ?_
    obtain ⟨g13, h⟩ := gd_some h
    refine k9_if_eq fX10_teach_13 rfl g13 (fun c12 => ?_) (fun c12 => ?_)
    · replace h := ite_t (c12) h
      exact tj_X10_teach_J33 hr0   h
    · replace h := ite_f (c12) h
      refine t_l fX10_teach_16 rfl rfl rfl rfl ?_
      refine t_l fX10_teach_17 rfl rfl rfl rfl ?_
      obtain ⟨g15, h⟩ := gd_some h
      obtain ⟨g16, h⟩ := gd_some h
      refine k9_ic_eq fX10_teach_18 rfl g15 g16 (fun c14 => ?_) (fun c14 => ?_)
      · replace h := ite_t (c14) h
        exact tj_X10_teach_J33 hr0   h
      · replace h := ite_f (c14) h
        refine t_l fX10_teach_21 rfl rfl rfl rfl ?_
        obtain ⟨g17, h⟩ := gd_some h
        refine k9_i2l fX10_teach_22 g17 ?_
        refine t_s fX10_teach_23 rfl rfl rfl ?_
        refine t_s fX10_teach_24 rfl rfl rfl ?_
        obtain ⟨V18, v19, e20, h⟩ := bd_some h
        refine kcX10_isIn fX10_teach_27 rfl (q_X10_isIn  e20) (by decide) ?_
        obtain ⟨g22, h⟩ := gd_some h
        refine k9_if_ne fX10_teach_30 rfl g22 (fun c21 => ?_) (fun c21 => ?_)
        · replace h := ite_f (c21) h
          refine t_l fX10_teach_39 rfl rfl rfl rfl ?_
          obtain ⟨V23, v24, e25, h⟩ := bd_some h
          refine kcX10_keeps fX10_teach_40 (hr0).1 rfl (q_X10_keeps (hr0) e25) (by decide) ?_
          refine t_l fX10_teach_43 rfl rfl rfl rfl ?_
          refine t_l fX10_teach_44 rfl rfl rfl rfl ?_
          refine t_l fX10_teach_45 rfl rfl rfl rfl ?_
          obtain ⟨V26, v27, e28, h⟩ := bd_some h
          refine kcX10_pointsOf fX10_teach_46 (hr0).1 rfl (q_X10_pointsOf (hr0) e28) (by decide) ?_
          refine t_l fX10_teach_49 rfl rfl rfl rfl ?_
          refine t_l fX10_teach_51 rfl rfl rfl rfl ?_
          refine t_l fX10_teach_52 rfl rfl rfl rfl ?_
          refine t_l fX10_teach_53 rfl rfl rfl rfl ?_
          refine t_l fX10_teach_54 rfl rfl rfl rfl ?_
          obtain ⟨V29, v30, e31, h⟩ := bd_some h
          refine kcX10_knowsNow fX10_teach_55 (hr0).1 rfl (q_X10_knowsNow (hr0) e31) (by decide) ?_
          refine t_l fX10_teach_58 rfl rfl rfl rfl ?_
          refine t_ret fX10_teach_60 rX10_teach ?_
          exact qf_i h
        · replace h := ite_t (Classical.not_not.mp c21) h
          exact tj_X10_teach_J33 hr0   h

theorem q_X10_seed {X : mX} {n z : Nat} {G : mG} {r0 : Nat} (hr0 : is10 G r0) {x1 : Int} {V V' : mV} {v : Int} (h : F_X10_seed G r0 x1 V = some (V', v)) : Rn X (0) 244 [.ref r0, .int (iI x1)] n z G V n z G V' (some (.int (iI v))) := by
  refine qi_toR (v := v) (L := [some (.ref r0), some (.int (iI x1))]) rfl ?_
  unfold F_X10_seed at h
  refine t_l fX10_seed_0 rfl rfl rfl rfl ?_
  obtain ⟨g2, h⟩ := gd_some h
  refine k9_if_ge fX10_seed_1 rfl g2 (fun c1 => ?_) (fun c1 => ?_)
  · replace h := ite_t (c1) h
    refine t_l fX10_seed_16 rfl rfl rfl rfl ?_
    refine t_l fX10_seed_17 rfl rfl rfl rfl ?_
    refine k9_i2l fX10_seed_18 g2 ?_
    refine k9_pj fX10_seed_19 (hr0).1 kp_10_71 ?_
    replace h := lt_some h
    refine t_s fX10_seed_22 rfl rfl rfl ?_
    refine t_ret fX10_seed_23 (rX10_seed _ (by decide)) ?_
    exact qf_i h
  · replace h := ite_f (c1) h
    refine t_l fX10_seed_4 rfl rfl rfl rfl ?_
    refine k9_gr fX10_seed_5 (hr0).1 kg_10_9 (s10_9r hr0) ?_
    refine t_s fX10_seed_8 rfl rfl rfl ?_
    refine t_s fX10_seed_9 rfl rfl rfl ?_
    refine k9_ia fX10_seed_10 (s10_9s hr0) (by decide) (by decide) (by decide) ?_
    refine t_s fX10_seed_11 rfl rfl rfl ?_
    refine k9_iadd fX10_seed_12 ?_
    refine k9_is fX10_seed_13 (s10_9s hr0) (by decide) (by decide) (by decide) ?_
    replace h := lt_some h
    refine t_s fX10_seed_14 rfl rfl rfl ?_
    refine t_ret fX10_seed_15 (rX10_seed _ (by decide)) ?_
    exact qf_i h

theorem q_X10_drawOf {X : mX} {n z : Nat} {G : mG} {r0 : Nat} (hr0 : is10 G r0) {x1 : Int} {V V' : mV} {v : Int} (h : F_X10_drawOf G r0 x1 V = some (V', v)) : Rn X (0) 245 [.ref r0, .int (iI x1)] n z G V n z G V' (some (.int (iI v))) := by
  refine qi_toR (v := v) (L := [some (.ref r0), some (.int (iI x1))]) rfl ?_
  unfold F_X10_drawOf at h
  refine t_l fX10_drawOf_0 rfl rfl rfl rfl ?_
  refine t_s fX10_drawOf_1 rfl rfl rfl ?_
  refine t_l fX10_drawOf_4 rfl rfl rfl rfl ?_
  refine k9_gj fX10_drawOf_5 (hr0).1 kg_10_71 ?_
  refine k9_lmul fX10_drawOf_8 ?_
  refine t_s fX10_drawOf_9 rfl rfl rfl ?_
  refine k9_ladd fX10_drawOf_12 ?_
  refine t_s fX10_drawOf_13 rfl rfl rfl ?_
  obtain ⟨g1, h⟩ := gd_some h
  refine k9_lrem fX10_drawOf_16 g1 ⟨by decide, by decide⟩ (by decide) ?_
  refine k9_pj fX10_drawOf_17 (hr0).1 kp_10_71 ?_
  replace h := lt_some h
  refine t_l fX10_drawOf_20 rfl rfl rfl rfl ?_
  refine k9_gj fX10_drawOf_21 (hr0).1 kg_10_71 ?_
  refine t_s fX10_drawOf_24 rfl rfl rfl ?_
  obtain ⟨g3, h⟩ := gd_some h
  refine k9_ldiv fX10_drawOf_27 g3 ⟨by decide, by decide⟩ (by decide) ?_
  refine t_l fX10_drawOf_28 rfl rfl rfl rfl ?_
  obtain ⟨g4, h⟩ := gd_some h
  refine k9_i2l fX10_drawOf_29 g4 ?_
  obtain ⟨g5, h⟩ := gd_some h
  obtain ⟨g6, h⟩ := gd_some h
  obtain ⟨g7, h⟩ := gd_some h
  refine k9_lrem fX10_drawOf_30 g5 g6 g7 ?_
  refine k9_l2i fX10_drawOf_31 ?_
  refine t_ret fX10_drawOf_32 rX10_drawOf ?_
  exact qf_i h

theorem q_X10_bellRings {X : mX} {n z : Nat} {G : mG} {r0 : Nat} (hr0 : is10 G r0) {V V' : mV} {v : Int} (h : F_X10_bellRings G r0 V = some (V', v)) : Rn X (2) 246 [.ref r0] n z G V n z G V' none := by
  refine qv_toR (v := v) (L := [some (.ref r0), none]) rfl ?_
  unfold F_X10_bellRings at h
  refine t_l fX10_bellRings_0 rfl rfl rfl rfl ?_
  obtain ⟨V1, v2, e3, h⟩ := bd_some h
  refine kcX10_peopleMany fX10_bellRings_1 (hr0).1 rfl (q_X10_peopleMany (hr0) e3) (by decide) ?_
  obtain ⟨g5, h⟩ := gd_some h
  refine k9_if_ne fX10_bellRings_4 rfl g5 (fun c4 => ?_) (fun c4 => ?_)
  · replace h := ite_f (c4) h
    refine t_l fX10_bellRings_8 rfl rfl rfl rfl ?_
    refine t_l fX10_bellRings_9 rfl rfl rfl rfl ?_
    obtain ⟨V6, v7, e8, h⟩ := bd_some h
    refine kcX10_peopleMany fX10_bellRings_10 (hr0).1 rfl (q_X10_peopleMany (hr0) e8) (by decide) ?_
    obtain ⟨V9, v10, e11, h⟩ := bd_some h
    refine kcX10_drawOf fX10_bellRings_13 (hr0).1 rfl (q_X10_drawOf (hr0) e11) (by decide) ?_
    refine t_l fX10_bellRings_16 rfl rfl rfl rfl ?_
    refine t_l fX10_bellRings_17 rfl rfl rfl rfl ?_
    refine t_l fX10_bellRings_18 rfl rfl rfl rfl ?_
    obtain ⟨V12, v13, e14, h⟩ := bd_some h
    refine kcX10_livesNow fX10_bellRings_19 (hr0).1 rfl (q_X10_livesNow (hr0) e14) (by decide) ?_
    refine t_s fX10_bellRings_22 rfl rfl rfl ?_
    obtain ⟨g16, h⟩ := gd_some h
    refine k9_ic_eq fX10_bellRings_23 rfl g16 ⟨by decide, by decide⟩ (fun c15 => ?_) (fun c15 => ?_)
    · replace h := ite_t (c15) h
      refine t_ret fX10_bellRings_31 rX10_bellRings ?_
      exact qf_v h
    · replace h := ite_f (c15) h
      refine t_l fX10_bellRings_26 rfl rfl rfl rfl ?_
      refine t_l fX10_bellRings_27 rfl rfl rfl rfl ?_
      obtain ⟨V17, v18, e19, h⟩ := bd_some h
      refine kcX10_isCalled fX10_bellRings_28 (hr0).1 rfl (q_X10_isCalled (hr0) e19) (by decide) ?_
      refine t_ret fX10_bellRings_31 rX10_bellRings ?_
      exact qf_v h
  · replace h := ite_t (Classical.not_not.mp c4) h
    refine t_ret fX10_bellRings_7 rX10_bellRings ?_
    exact qf_v h

theorem q_X10_tillNoon {X : mX} {n z : Nat} {G : mG} {r0 : Nat} (hr0 : is10 G r0) {V V' : mV} {v : Int} (h : F_X10_tillNoon G r0 V = some (V', v)) : Rn X (0) 247 [.ref r0] n z G V n z G V' (some (.int (iI v))) := by
  refine qi_toR (v := v) (L := [some (.ref r0)]) rfl ?_
  unfold F_X10_tillNoon at h
  refine t_s fX10_tillNoon_0 rfl rfl rfl ?_
  refine t_l fX10_tillNoon_2 rfl rfl rfl rfl ?_
  refine k9_gr fX10_tillNoon_3 (hr0).1 kg_10_49 (s10_49r hr0) ?_
  refine t_s fX10_tillNoon_6 rfl rfl rfl ?_
  refine k9_ia fX10_tillNoon_7 (s10_49s hr0) (by decide) (by decide) (by decide) ?_
  refine t_s fX10_tillNoon_8 rfl rfl rfl ?_
  obtain ⟨g1, h⟩ := gd_some h
  refine k9_irem fX10_tillNoon_10 g1 ⟨by decide, by decide⟩ (by decide) ?_
  refine k9_isub fX10_tillNoon_11 ?_
  refine t_s fX10_tillNoon_12 rfl rfl rfl ?_
  refine k9_iadd fX10_tillNoon_14 ?_
  refine t_s fX10_tillNoon_15 rfl rfl rfl ?_
  obtain ⟨g2, h⟩ := gd_some h
  refine k9_irem fX10_tillNoon_17 g2 ⟨by decide, by decide⟩ (by decide) ?_
  refine t_s fX10_tillNoon_18 rfl rfl rfl ?_
  refine k9_iadd fX10_tillNoon_19 ?_
  refine t_ret fX10_tillNoon_20 rX10_tillNoon ?_
  exact qf_i h

theorem tj_X10_bells_J37 {X : mX} {n z : Nat} {G : mG} {r0 : Nat} (hr0 : is10 G r0) {x1 : Int} {j2 : Option Value} {V V' : mV} {v : Int} (h : F_X10_bells_J37 G r0 x1 V = some (V', v)) : T X (8) 248 37 [some (.ref r0), some (.int (iI x1)), j2] [] n z G V (qi n z G V' v) := by
  unfold F_X10_bells_J37 at h
  refine t_l fX10_bells_37 rfl rfl rfl rfl ?_
  refine t_s fX10_bells_38 rfl rfl rfl ?_
  obtain ⟨V7, v8, e9, h⟩ := bd_some h
  refine kcX10_refuses fX10_bells_39 (hr0).1 rfl (q_X10_refuses (hr0) e9) (by decide) ?_
  refine t_ret fX10_bells_42 rX10_bells ?_
  exact qf_i h

theorem tb_X10_bells_49 {X : mX} {n z : Nat} {G : mG} {r0 : Nat} (hr0 : is10 G r0) {x1 x2 : Int} {V V' : mV} {q : Nat × Int} {Q : Nat → Nat → mG → mV → Option Value → Prop} (h0 : q.1 = 0 → T X (8) 248 49 [some (.ref r0), some (.int (iI x1)), some (.int (iI q.2))] [] n z G V' Q) (h1 : q.1 = 1 → T X (8) 248 78 [some (.ref r0), some (.int (iI x1)), some (.int (iI q.2))] [] n z G V' Q) (h : B_X10_bells_49 G r0 x1 x2 V = some (V', q)) : T X (8) 248 49 [some (.ref r0), some (.int (iI x1)), some (.int (iI x2))] [] n z G V Q := by
  unfold B_X10_bells_49 at h
  refine t_l fX10_bells_49 rfl rfl rfl rfl ?_
  refine t_l fX10_bells_50 rfl rfl rfl rfl ?_
  obtain ⟨g19, h⟩ := gd_some h
  obtain ⟨g20, h⟩ := gd_some h
  refine k9_ic_ge fX10_bells_51 rfl g19 g20 (fun c18 => ?_) (fun c18 => ?_)
  · replace h := ite_t (c18) h
    cases h
    exact h1 rfl
  · replace h := ite_f (c18) h
    refine t_l fX10_bells_54 rfl rfl rfl rfl ?_
    refine t_l fX10_bells_55 rfl rfl rfl rfl ?_
    obtain ⟨V21, v22, e23, h⟩ := bd_some h
    refine kcX10_tillNoon fX10_bells_56 (hr0).1 rfl (q_X10_tillNoon (hr0) e23) (by decide) ?_
    obtain ⟨V24, v25, e26, h⟩ := bd_some h
    refine kcX10_hoursCome fX10_bells_59 (hr0).1 rfl (q_X10_hoursCome (hr0) e26) (by decide) ?_
    refine t_l fX10_bells_62 rfl rfl rfl rfl ?_
    obtain ⟨V27, v28, e29, h⟩ := bd_some h
    refine kcX10_bellRings fX10_bells_63 (hr0).1 rfl (q_X10_bellRings (hr0) e29) (by decide) ?_
    refine t_l fX10_bells_66 rfl rfl rfl rfl ?_
    refine t_s fX10_bells_67 rfl rfl rfl ?_
    obtain ⟨V30, v31, e32, h⟩ := bd_some h
    refine kcX10_hoursCome fX10_bells_69 (hr0).1 rfl (q_X10_hoursCome (hr0) e32) (by decide) ?_
    replace h := lt_some h
    refine k9_iinc fX10_bells_72 rfl (Nat.le_of_ble_eq_true rfl) rfl ?_
    refine k9_goto fX10_bells_75 rfl ?_
    cases h
    exact h0 rfl

theorem tl_X10_bells_49 {X : mX} {n z : Nat} {G : mG} {r0 : Nat} (hr0 : is10 G r0) {x1 x2 : Int} {V V' : mV} {fu : Nat} {q : Nat × Int} {Q : Nat → Nat → mG → mV → Option Value → Prop} (k1 : q.1 = 1 → T X (8) 248 78 [some (.ref r0), some (.int (iI x1)), some (.int (iI q.2))] [] n z G V' Q) (h : lp (fun (s : Int) V => B_X10_bells_49 G r0 x1 s V) fu x2 V = some (V', q)) : T X (8) 248 49 [some (.ref r0), some (.int (iI x1)), some (.int (iI x2))] [] n z G V Q :=
  lp_go (P0 := fun s V => T X (8) 248 49 [some (.ref r0), some (.int (iI x1)), some (.int (iI s))] [] n z G V Q) (PE := fun t s V => (t = 1 → T X (8) 248 78 [some (.ref r0), some (.int (iI x1)), some (.int (iI s))] [] n z G V Q)) (fun s V V' q hb h0 h1 => tb_X10_bells_49 hr0  h0 (fun e => (h1 (by omega)) e) hb) fu x2 V V' q h k1

theorem q_X10_bells {X : mX} {n z : Nat} {G : mG} {r0 : Nat} (hr0 : is10 G r0) {x1 : Int} {V V' : mV} {v : Int} (h : F_X10_bells G r0 x1 V = some (V', v)) : Rn X (8) 248 [.ref r0, .int (iI x1)] n z G V n z G V' (some (.int (iI v))) := by
  refine qi_toR (v := v) (L := [some (.ref r0), some (.int (iI x1)), none]) rfl ?_
  unfold F_X10_bells at h
  refine t_l fX10_bells_0 rfl rfl rfl rfl ?_
  obtain ⟨g1, h⟩ := gd_some h
  refine k9_i2l fX10_bells_1 g1 ?_
  refine t_s fX10_bells_2 rfl rfl rfl ?_
  refine t_s fX10_bells_3 rfl rfl rfl ?_
  obtain ⟨V2, v3, e4, h⟩ := bd_some h
  refine kcX10_isIn fX10_bells_6 rfl (q_X10_isIn  e4) (by decide) ?_
  obtain ⟨g6, h⟩ := gd_some h
  refine k9_if_eq fX10_bells_9 rfl g6 (fun c5 => ?_) (fun c5 => ?_)
  · replace h := ite_t (c5) h
    exact tj_X10_bells_J37 hr0   h
  · replace h := ite_f (c5) h
    refine t_l fX10_bells_12 rfl rfl rfl rfl ?_
    refine k9_gr fX10_bells_13 (hr0).1 kg_10_49 (s10_49r hr0) ?_
    refine t_s fX10_bells_16 rfl rfl rfl ?_
    refine k9_ia fX10_bells_17 (s10_49s hr0) (by decide) (by decide) (by decide) ?_
    refine t_l fX10_bells_18 rfl rfl rfl rfl ?_
    obtain ⟨V10, v11, e12, h⟩ := bd_some h
    refine kcX10_tillNoon fX10_bells_19 (hr0).1 rfl (q_X10_tillNoon (hr0) e12) (by decide) ?_
    refine k9_iadd fX10_bells_22 ?_
    refine t_s fX10_bells_23 rfl rfl rfl ?_
    refine t_l fX10_bells_25 rfl rfl rfl rfl ?_
    refine k9_imul fX10_bells_26 ?_
    refine k9_iadd fX10_bells_27 ?_
    refine t_s fX10_bells_28 rfl rfl rfl ?_
    refine k9_isub fX10_bells_30 ?_
    refine t_s fX10_bells_31 rfl rfl rfl ?_
    obtain ⟨g14, h⟩ := gd_some h
    refine k9_ic_le fX10_bells_34 rfl g14 ⟨by decide, by decide⟩ (fun c13 => ?_) (fun c13 => ?_)
    · replace h := ite_t (c13) h
      refine t_l fX10_bells_43 rfl rfl rfl rfl ?_
      obtain ⟨V15, v16, e17, h⟩ := bd_some h
      refine kcX10_keeps fX10_bells_44 (hr0).1 rfl (q_X10_keeps (hr0) e17) (by decide) ?_
      refine t_s fX10_bells_47 rfl rfl rfl ?_
      refine t_l fX10_bells_48 rfl rfl rfl rfl ?_
      obtain ⟨V34, u35, e36, h⟩ := bd_some h
      refine tl_X10_bells_49 hr0  (fun e37 => ?_) e36
      refine t_l fX10_bells_78 rfl rfl rfl rfl ?_
      refine k9_gr fX10_bells_79 (hr0).1 kg_10_49 (s10_49r hr0) ?_
      refine t_s fX10_bells_82 rfl rfl rfl ?_
      refine k9_ia fX10_bells_83 (s10_49s hr0) (by decide) (by decide) (by decide) ?_
      refine t_ret fX10_bells_84 rX10_bells ?_
      exact qf_i h
    · replace h := ite_f (c13) h
      exact tj_X10_bells_J37 hr0   h


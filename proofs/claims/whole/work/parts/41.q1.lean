theorem tb_X2_setAskFacts_92 {X : mX} {n z : Nat} {G : mG} {r0 r1 r2 : Nat} (hr0 : is2 G r0) (hr1 : is1 G r1) (hr2 : is4 G r2) {x3 x4 x6 : Int} {j5 : Option Value} {V V' : mV} {q : Nat × Int} {Q : Nat → Nat → mG → mV → Option Value → Prop} (h0 : q.1 = 0 → ∀ j5 : Option Value, T X (2) 32 92 [some (.ref r0), some (.ref r1), some (.ref r2), some (.int (iI x3)), some (.int (iI x4)), j5, some (.int (iI q.2))] [] n z G V' Q) (h1 : q.1 = 1 → ∀ j4 j5 : Option Value, T X (2) 32 135 [some (.ref r0), some (.ref r1), some (.ref r2), some (.int (iI x3)), j4, j5, some (.int (iI q.2))] [] n z G V' Q) (h : B_X2_setAskFacts_92 G r0 r1 r2 x3 x4 x6 V = some (V', q)) : T X (2) 32 92 [some (.ref r0), some (.ref r1), some (.ref r2), some (.int (iI x3)), some (.int (iI x4)), j5, some (.int (iI x6))] [] n z G V Q := by
  unfold B_X2_setAskFacts_92 at h
  refine t_l fX2_setAskFacts_92 rfl rfl rfl rfl ?_
  refine t_s fX2_setAskFacts_94 rfl rfl rfl ?_
  obtain ⟨g26, h⟩ := gd_some h
  refine k9_ic_ge fX2_setAskFacts_96 rfl g26 ⟨by decide, by decide⟩ (fun c25 => ?_) (fun c25 => ?_)
  · replace h := ite_t (c25) h
    cases h
    exact h1 rfl _ _
  · replace h := ite_f (c25) h
    refine t_l fX2_setAskFacts_99 rfl rfl rfl rfl ?_
    refine k9_gr fX2_setAskFacts_100 (hr0).1 kg_2_0 (s2_0r hr0) ?_
    refine t_s fX2_setAskFacts_103 rfl rfl rfl ?_
    refine t_l fX2_setAskFacts_105 rfl rfl rfl rfl ?_
    refine k9_iadd fX2_setAskFacts_107 ?_
    refine t_l fX2_setAskFacts_108 rfl rfl rfl rfl ?_
    refine t_l fX2_setAskFacts_110 rfl rfl rfl rfl ?_
    obtain ⟨g28, h⟩ := gd_some h
    refine k9_ic_ge fX2_setAskFacts_112 rfl g26 g28 (fun c27 => ?_) (fun c27 => ?_)
    · replace h := ite_t (c27) h
      refine t_s fX2_setAskFacts_125 rfl rfl rfl ?_
      obtain ⟨V29, v30, e31, h⟩ := bd_some h
      refine kcX7_put fX2_setAskFacts_126 (s2_0s hr0).1 rfl (q_X7_put (s2_0s hr0) e31) (by decide) ?_
      replace h := lt_some h
      refine k9_iinc fX2_setAskFacts_129 rfl (Nat.le_of_ble_eq_true rfl) rfl ?_
      refine k9_goto fX2_setAskFacts_132 rfl ?_
      cases h
      exact h0 rfl _
    · replace h := ite_f (c27) h
      refine t_l fX2_setAskFacts_115 rfl rfl rfl rfl ?_
      refine t_l fX2_setAskFacts_116 rfl rfl rfl rfl ?_
      refine t_l fX2_setAskFacts_117 rfl rfl rfl rfl ?_
      obtain ⟨V33, v34, e35, h⟩ := bd_some h
      refine kcX4_pointsOf fX2_setAskFacts_119 (hr2).1 rfl (q_X4_pointsOf (hr2) e35) (by decide) ?_
      refine k9_goto fX2_setAskFacts_122 rfl ?_
      obtain ⟨V36, v37, e38, h⟩ := bd_some h
      refine kcX7_put fX2_setAskFacts_126 (s2_0s hr0).1 rfl (q_X7_put (s2_0s hr0) e38) (by decide) ?_
      replace h := lt_some h
      refine k9_iinc fX2_setAskFacts_129 rfl (Nat.le_of_ble_eq_true rfl) rfl ?_
      refine k9_goto fX2_setAskFacts_132 rfl ?_
      cases h
      exact h0 rfl _

theorem tl_X2_setAskFacts_92 {X : mX} {n z : Nat} {G : mG} {r0 r1 r2 : Nat} (hr0 : is2 G r0) (hr1 : is1 G r1) (hr2 : is4 G r2) {x3 x4 x6 : Int} {j5 : Option Value} {V V' : mV} {fu : Nat} {q : Nat × Int} {Q : Nat → Nat → mG → mV → Option Value → Prop} (k1 : q.1 = 1 → ∀ j4 j5 : Option Value, T X (2) 32 135 [some (.ref r0), some (.ref r1), some (.ref r2), some (.int (iI x3)), j4, j5, some (.int (iI q.2))] [] n z G V' Q) (h : lp (fun (s : Int) V => B_X2_setAskFacts_92 G r0 r1 r2 x3 x4 s V) fu x6 V = some (V', q)) : T X (2) 32 92 [some (.ref r0), some (.ref r1), some (.ref r2), some (.int (iI x3)), some (.int (iI x4)), j5, some (.int (iI x6))] [] n z G V Q :=
  lp_go (P0 := fun s V => ∀ j5 : Option Value, T X (2) 32 92 [some (.ref r0), some (.ref r1), some (.ref r2), some (.int (iI x3)), some (.int (iI x4)), j5, some (.int (iI s))] [] n z G V Q) (PE := fun t s V => (t = 1 → ∀ j4 j5 : Option Value, T X (2) 32 135 [some (.ref r0), some (.ref r1), some (.ref r2), some (.int (iI x3)), j4, j5, some (.int (iI s))] [] n z G V Q)) (fun s V V' q hb h0 h1 => fun _ => tb_X2_setAskFacts_92 hr0 hr1 hr2  h0 (fun e => (h1 (by omega)) e) hb) fu x6 V V' q h k1 _

theorem tj_X2_setAskFacts_J69 {X : mX} {n z : Nat} {G : mG} {r0 r1 r2 : Nat} (hr0 : is2 G r0) (hr1 : is1 G r1) (hr2 : is4 G r2) {x3 x4 s1 s2 : Int} {j5 j6 : Option Value} {V V' : mV} {v : Int} (h : F_X2_setAskFacts_J69 G r0 r1 r2 x3 x4 s1 s2 V = some (V', v)) : T X (2) 32 69 [some (.ref r0), some (.ref r1), some (.ref r2), some (.int (iI x3)), some (.int (iI x4)), j5, j6] [.int (iI s2), .int (iI s1), .ref (r0 + 1)] n z G V (qv n z G V' v) := by
  unfold F_X2_setAskFacts_J69 at h
  obtain ⟨V16, v17, e18, h⟩ := bd_some h
  refine kcX7_put fX2_setAskFacts_69 (s2_0s hr0).1 rfl (q_X7_put (s2_0s hr0) e18) (by decide) ?_
  refine t_l fX2_setAskFacts_72 rfl rfl rfl rfl ?_
  refine k9_gr fX2_setAskFacts_73 (hr0).1 kg_2_0 (s2_0r hr0) ?_
  refine t_s fX2_setAskFacts_76 rfl rfl rfl ?_
  refine t_l fX2_setAskFacts_78 rfl rfl rfl rfl ?_
  refine k9_gr fX2_setAskFacts_79 (hr0).1 kg_2_5 (s2_5r hr0) ?_
  refine t_l fX2_setAskFacts_82 rfl rfl rfl rfl ?_
  obtain ⟨V19, v20, e21, h⟩ := bd_some h
  refine kcX7_get fX2_setAskFacts_83 (s2_5s hr0).1 rfl (q_X7_get (s2_5s hr0) e21) (by decide) ?_
  obtain ⟨V22, v23, e24, h⟩ := bd_some h
  refine kcX7_put fX2_setAskFacts_86 (s2_0s hr0).1 rfl (q_X7_put (s2_0s hr0) e24) (by decide) ?_
  refine t_s fX2_setAskFacts_89 rfl rfl rfl ?_
  refine t_l fX2_setAskFacts_90 rfl rfl rfl rfl ?_
  obtain ⟨V40, u41, e42, h⟩ := bd_some h
  refine tl_X2_setAskFacts_92 hr0 hr1 hr2  (fun e43 j4 j5 => ?_) e42
  refine t_ret fX2_setAskFacts_135 rX2_setAskFacts ?_
  exact qf_v h

theorem q_X2_setAskFacts {X : mX} {n z : Nat} {G : mG} {r0 r1 r2 : Nat} (hr0 : is2 G r0) (hr1 : is1 G r1) (hr2 : is4 G r2) {x3 : Int} {V V' : mV} {v : Int} (h : F_X2_setAskFacts G r0 r1 r2 x3 V = some (V', v)) : Rn X (2) 32 [.ref r0, .ref r1, .ref r2, .int (iI x3)] n z G V n z G V' none := by
  refine qv_toR (v := v) (L := [some (.ref r0), some (.ref r1), some (.ref r2), some (.int (iI x3)), none, none, none]) rfl ?_
  unfold F_X2_setAskFacts at h
  refine t_l fX2_setAskFacts_0 rfl rfl rfl rfl ?_
  refine k9_gr fX2_setAskFacts_1 (hr1).1 kg_1_0 (s1_0r hr1) ?_
  obtain ⟨V1, v2, e3, h⟩ := bd_some h
  refine kcX7_size fX2_setAskFacts_4 (s1_0s hr1).1 rfl (q_X7_size (s1_0s hr1) e3) (by decide) ?_
  refine t_l fX2_setAskFacts_7 rfl rfl rfl rfl ?_
  refine t_l fX2_setAskFacts_9 rfl rfl rfl rfl ?_
  refine k9_gr fX2_setAskFacts_10 (hr2).1 kg_4_1 (s4_1r hr2) ?_
  refine t_l fX2_setAskFacts_13 rfl rfl rfl rfl ?_
  obtain ⟨V4, v5, e6, h⟩ := bd_some h
  refine kcX7_get fX2_setAskFacts_14 (s4_1s hr2).1 rfl (q_X7_get (s4_1s hr2) e6) (by decide) ?_
  refine t_l fX2_setAskFacts_17 rfl rfl rfl rfl ?_
  refine t_l fX2_setAskFacts_19 rfl rfl rfl rfl ?_
  refine t_l fX2_setAskFacts_20 rfl rfl rfl rfl ?_
  refine k9_gi fX2_setAskFacts_21 (hr2).1 kg_4_0 ?_
  refine t_s fX2_setAskFacts_24 rfl rfl rfl ?_
  obtain ⟨g7, h⟩ := gd_some h
  refine k9_irem fX2_setAskFacts_26 g7 ⟨by decide, by decide⟩ (by decide) ?_
  refine t_l fX2_setAskFacts_27 rfl rfl rfl rfl ?_
  refine k9_gi fX2_setAskFacts_28 (hr2).1 kg_4_0 ?_
  refine t_s fX2_setAskFacts_31 rfl rfl rfl ?_
  refine k9_idiv fX2_setAskFacts_33 g7 ⟨by decide, by decide⟩ (by decide) ?_
  obtain ⟨V8, v9, e10, h⟩ := bd_some h
  refine kcX2_setTime fX2_setAskFacts_34 (hr0).1 rfl (q_X2_setTime (hr0) e10) (by decide) ?_
  refine t_l fX2_setAskFacts_37 rfl rfl rfl rfl ?_
  refine k9_gr fX2_setAskFacts_38 (hr0).1 kg_2_0 (s2_0r hr0) ?_
  refine t_s fX2_setAskFacts_41 rfl rfl rfl ?_
  refine t_l fX2_setAskFacts_43 rfl rfl rfl rfl ?_
  refine k9_gi fX2_setAskFacts_44 (hr2).1 kg_4_0 ?_
  obtain ⟨V11, v12, e13, h⟩ := bd_some h
  refine kcX7_put fX2_setAskFacts_47 (s2_0s hr0).1 rfl (q_X7_put (s2_0s hr0) e13) (by decide) ?_
  refine t_l fX2_setAskFacts_50 rfl rfl rfl rfl ?_
  refine k9_gr fX2_setAskFacts_51 (hr0).1 kg_2_0 (s2_0r hr0) ?_
  refine t_s fX2_setAskFacts_54 rfl rfl rfl ?_
  refine t_l fX2_setAskFacts_56 rfl rfl rfl rfl ?_
  refine t_s fX2_setAskFacts_58 rfl rfl rfl ?_
  obtain ⟨g15, h⟩ := gd_some h
  refine k9_ic_ne fX2_setAskFacts_59 rfl g15 ⟨by decide, by decide⟩ (fun c14 => ?_) (fun c14 => ?_)
  · replace h := ite_f (c14) h
    refine t_l fX2_setAskFacts_67 rfl rfl rfl rfl ?_
    exact tj_X2_setAskFacts_J69 hr0 hr1 hr2   h
  · replace h := ite_t (Classical.not_not.mp c14) h
    refine t_s fX2_setAskFacts_62 rfl rfl rfl ?_
    refine k9_goto fX2_setAskFacts_64 rfl ?_
    exact tj_X2_setAskFacts_J69 hr0 hr1 hr2   h

theorem q_X3_write {X : mX} {n z : Nat} {G : mG} {r0 : Nat} (hr0 : is3 G r0) {x1 x2 : Int} {V V' : mV} {v : Int} (h : F_X3_write G r0 x1 x2 V = some (V', v)) : Rn X (1) 36 [.ref r0, .int (iI x1), .int (iI x2)] n z G V n z G V' none := by
  refine qv_toR (v := v) (L := [some (.ref r0), some (.int (iI x1)), some (.int (iI x2))]) rfl ?_
  unfold F_X3_write at h
  refine t_l fX3_write_0 rfl rfl rfl rfl ?_
  refine k9_gr fX3_write_1 (hr0).1 kg_3_0 (s3_0r hr0) ?_
  refine t_l fX3_write_4 rfl rfl rfl rfl ?_
  refine t_s fX3_write_5 rfl rfl rfl ?_
  refine k8_ishl fX3_write_6 ⟨by decide, by decide⟩ ?_
  refine t_l fX3_write_7 rfl rfl rfl rfl ?_
  obtain ⟨g1, h⟩ := gd_some h
  refine k8_ior2 fX3_write_8 g1 ?_
  obtain ⟨V2, v3, e4, h⟩ := bd_some h
  refine kcX7_add fX3_write_9 (s3_0s hr0).1 rfl (q_X7_add (s3_0s hr0) e4) (by decide) ?_
  refine t_ret fX3_write_12 rX3_write ?_
  exact qf_v h

theorem tb_X7_copy_18 {X : mX} {n z : Nat} {G : mG} {r0 r1 : Nat} (hr0 : is7 G r0) (hr1 : is7 G r1) {x2 : Int} {V V' : mV} {q : Nat × Int} {Q : Nat → Nat → mG → mV → Option Value → Prop} (h0 : q.1 = 0 → T X (1) 102 18 [some (.ref r0), some (.ref r1), some (.int (iI q.2))] [] n z G V' Q) (h1 : q.1 = 1 → T X (1) 102 42 [some (.ref r0), some (.ref r1), some (.int (iI q.2))] [] n z G V' Q) (h : B_X7_copy_18 G r0 r1 x2 V = some (V', q)) : T X (1) 102 18 [some (.ref r0), some (.ref r1), some (.int (iI x2))] [] n z G V Q := by
  unfold B_X7_copy_18 at h
  refine t_l fX7_copy_18 rfl rfl rfl rfl ?_
  refine t_l fX7_copy_19 rfl rfl rfl rfl ?_
  refine k9_gi fX7_copy_20 (hr0).1 kg_7_1 ?_
  obtain ⟨g5, h⟩ := gd_some h
  obtain ⟨g6, h⟩ := gd_some h
  refine k9_ic_ge fX7_copy_23 rfl g5 g6 (fun c4 => ?_) (fun c4 => ?_)
  · replace h := ite_t (c4) h
    cases h
    exact h1 rfl
  · replace h := ite_f (c4) h
    refine t_l fX7_copy_26 rfl rfl rfl rfl ?_
    refine t_l fX7_copy_27 rfl rfl rfl rfl ?_
    refine t_l fX7_copy_28 rfl rfl rfl rfl ?_
    refine t_l fX7_copy_29 rfl rfl rfl rfl ?_
    obtain ⟨V7, v8, e9, h⟩ := bd_some h
    refine kcX7_get fX7_copy_30 (hr1).1 rfl (q_X7_get (hr1) e9) (by decide) ?_
    obtain ⟨V10, v11, e12, h⟩ := bd_some h
    refine kcX7_put fX7_copy_33 (hr0).1 rfl (q_X7_put (hr0) e12) (by decide) ?_
    replace h := lt_some h
    refine k9_iinc fX7_copy_36 rfl (Nat.le_of_ble_eq_true rfl) rfl ?_
    refine k9_goto fX7_copy_39 rfl ?_
    cases h
    exact h0 rfl

theorem tl_X7_copy_18 {X : mX} {n z : Nat} {G : mG} {r0 r1 : Nat} (hr0 : is7 G r0) (hr1 : is7 G r1) {x2 : Int} {V V' : mV} {fu : Nat} {q : Nat × Int} {Q : Nat → Nat → mG → mV → Option Value → Prop} (k1 : q.1 = 1 → T X (1) 102 42 [some (.ref r0), some (.ref r1), some (.int (iI q.2))] [] n z G V' Q) (h : lp (fun (s : Int) V => B_X7_copy_18 G r0 r1 s V) fu x2 V = some (V', q)) : T X (1) 102 18 [some (.ref r0), some (.ref r1), some (.int (iI x2))] [] n z G V Q :=
  lp_go (P0 := fun s V => T X (1) 102 18 [some (.ref r0), some (.ref r1), some (.int (iI s))] [] n z G V Q) (PE := fun t s V => (t = 1 → T X (1) 102 42 [some (.ref r0), some (.ref r1), some (.int (iI s))] [] n z G V Q)) (fun s V V' q hb h0 h1 => tb_X7_copy_18 hr0 hr1  h0 (fun e => (h1 (by omega)) e) hb) fu x2 V V' q h k1

theorem q_X7_copy {X : mX} {n z : Nat} {G : mG} {r0 r1 : Nat} (hr0 : is7 G r0) (hr1 : is7 G r1) {V V' : mV} {v : Int} (h : F_X7_copy G r0 r1 V = some (V', v)) : Rn X (1) 102 [.ref r0, .ref r1] n z G V n z G V' none := by
  refine qv_toR (v := v) (L := [some (.ref r0), some (.ref r1), none]) rfl ?_
  unfold F_X7_copy at h
  refine t_l fX7_copy_0 rfl rfl rfl rfl ?_
  refine t_l fX7_copy_1 rfl rfl rfl rfl ?_
  refine k9_gi fX7_copy_2 (hr1).1 kg_7_1 ?_
  refine t_l fX7_copy_5 rfl rfl rfl rfl ?_
  refine k9_gr fX7_copy_6 (hr0).1 kg_7_0 (s7_0r hr0) ?_
  refine k9_len fX7_copy_9 (s7_0s hr0) (by decide) ?_
  obtain ⟨g1, h⟩ := gd_some h
  obtain ⟨g2, h⟩ := gd_some h
  refine kcM_min fX7_copy_10 rfl (eM_min g1 g2) (by decide) ?_
  refine k9_pi fX7_copy_13 (hr0).1 kp_7_1 ?_
  replace h := lt_some h
  refine t_s fX7_copy_16 rfl rfl rfl ?_
  refine t_l fX7_copy_17 rfl rfl rfl rfl ?_
  obtain ⟨V14, u15, e16, h⟩ := bd_some h
  refine tl_X7_copy_18 hr0 hr1  (fun e17 => ?_) e16
  refine t_ret fX7_copy_42 rX7_copy ?_
  exact qf_v h

theorem q_X4_begin {X : mX} {n z : Nat} {G : mG} {r0 r1 : Nat} (hr0 : is4 G r0) (hr1 : is1 G r1) {V V' : mV} {v : Int} (h : F_X4_begin G r0 r1 V = some (V', v)) : Rn X (3) 42 [.ref r0, .ref r1] n z G V n z G V' none := by
  refine qv_toR (v := v) (L := [some (.ref r0), some (.ref r1), none]) rfl ?_
  unfold F_X4_begin at h
  refine t_l fX4_begin_0 rfl rfl rfl rfl ?_
  refine k9_gr fX4_begin_1 (hr1).1 kg_1_0 (s1_0r hr1) ?_
  obtain ⟨V1, v2, e3, h⟩ := bd_some h
  refine kcX7_size fX4_begin_4 (s1_0s hr1).1 rfl (q_X7_size (s1_0s hr1) e3) (by decide) ?_
  refine t_l fX4_begin_7 rfl rfl rfl rfl ?_
  refine t_l fX4_begin_8 rfl rfl rfl rfl ?_
  refine t_s fX4_begin_9 rfl rfl rfl ?_
  refine k9_pi fX4_begin_10 (hr0).1 kp_4_0 ?_
  replace h := lt_some h
  refine t_l fX4_begin_13 rfl rfl rfl rfl ?_
  refine t_l fX4_begin_14 rfl rfl rfl rfl ?_
  obtain ⟨V5, v6, e7, h⟩ := bd_some h
  refine kcX4_goHome fX4_begin_15 (hr0).1 rfl (q_X4_goHome (hr0) e7) (by decide) ?_
  refine t_l fX4_begin_18 rfl rfl rfl rfl ?_
  refine k9_gr fX4_begin_19 (hr0).1 kg_4_2 (s4_2r hr0) ?_
  refine t_l fX4_begin_22 rfl rfl rfl rfl ?_
  refine t_s fX4_begin_23 rfl rfl rfl ?_
  obtain ⟨V8, v9, e10, h⟩ := bd_some h
  refine kcX7_fill fX4_begin_24 (s4_2s hr0).1 rfl (q_X7_fill (s4_2s hr0) e10) (by decide) ?_
  refine t_l fX4_begin_27 rfl rfl rfl rfl ?_
  refine k9_gr fX4_begin_28 (hr0).1 kg_4_3 (s4_3r hr0) ?_
  refine t_l fX4_begin_31 rfl rfl rfl rfl ?_
  refine k9_gr fX4_begin_32 (hr1).1 kg_1_4 (s1_4r hr1) ?_
  obtain ⟨V11, v12, e13, h⟩ := bd_some h
  refine kcX7_copy fX4_begin_35 (s4_3s hr0).1 rfl rfl (q_X7_copy (s4_3s hr0) (s1_4s hr1) e13) (by decide) ?_
  refine t_l fX4_begin_38 rfl rfl rfl rfl ?_
  refine k9_gr fX4_begin_39 (hr0).1 kg_4_4 (s4_4r hr0) ?_
  refine t_s fX4_begin_42 rfl rfl rfl ?_
  refine t_s fX4_begin_45 rfl rfl rfl ?_
  obtain ⟨V14, v15, e16, h⟩ := bd_some h
  refine kcX7_fill fX4_begin_46 (s4_4s hr0).1 rfl (q_X7_fill (s4_4s hr0) e16) (by decide) ?_
  refine t_l fX4_begin_49 rfl rfl rfl rfl ?_
  refine t_s fX4_begin_50 rfl rfl rfl ?_
  refine k9_pi fX4_begin_51 (hr0).1 kp_4_5 ?_
  replace h := lt_some h
  refine t_ret fX4_begin_54 rX4_begin ?_
  exact qf_v h

theorem q_X4_copy {X : mX} {n z : Nat} {G : mG} {r0 r1 : Nat} (hr0 : is4 G r0) (hr1 : is4 G r1) {V V' : mV} {v : Int} (h : F_X4_copy G r0 r1 V = some (V', v)) : Rn X (2) 44 [.ref r0, .ref r1] n z G V n z G V' none := by
  refine qv_toR (v := v) (L := [some (.ref r0), some (.ref r1)]) rfl ?_
  unfold F_X4_copy at h
  refine t_l fX4_copy_0 rfl rfl rfl rfl ?_
  refine t_l fX4_copy_1 rfl rfl rfl rfl ?_
  refine k9_gi fX4_copy_2 (hr1).1 kg_4_0 ?_
  refine k9_pi fX4_copy_5 (hr0).1 kp_4_0 ?_
  replace h := lt_some h
  refine t_l fX4_copy_8 rfl rfl rfl rfl ?_
  refine k9_gr fX4_copy_9 (hr0).1 kg_4_1 (s4_1r hr0) ?_
  refine t_l fX4_copy_12 rfl rfl rfl rfl ?_
  refine k9_gr fX4_copy_13 (hr1).1 kg_4_1 (s4_1r hr1) ?_
  obtain ⟨V2, v3, e4, h⟩ := bd_some h
  refine kcX7_copy fX4_copy_16 (s4_1s hr0).1 rfl rfl (q_X7_copy (s4_1s hr0) (s4_1s hr1) e4) (by decide) ?_
  refine t_l fX4_copy_19 rfl rfl rfl rfl ?_
  refine k9_gr fX4_copy_20 (hr0).1 kg_4_2 (s4_2r hr0) ?_
  refine t_l fX4_copy_23 rfl rfl rfl rfl ?_
  refine k9_gr fX4_copy_24 (hr1).1 kg_4_2 (s4_2r hr1) ?_
  obtain ⟨V5, v6, e7, h⟩ := bd_some h
  refine kcX7_copy fX4_copy_27 (s4_2s hr0).1 rfl rfl (q_X7_copy (s4_2s hr0) (s4_2s hr1) e7) (by decide) ?_
  refine t_l fX4_copy_30 rfl rfl rfl rfl ?_
  refine k9_gr fX4_copy_31 (hr0).1 kg_4_3 (s4_3r hr0) ?_
  refine t_l fX4_copy_34 rfl rfl rfl rfl ?_
  refine k9_gr fX4_copy_35 (hr1).1 kg_4_3 (s4_3r hr1) ?_
  obtain ⟨V8, v9, e10, h⟩ := bd_some h
  refine kcX7_copy fX4_copy_38 (s4_3s hr0).1 rfl rfl (q_X7_copy (s4_3s hr0) (s4_3s hr1) e10) (by decide) ?_
  refine t_l fX4_copy_41 rfl rfl rfl rfl ?_
  refine k9_gr fX4_copy_42 (hr0).1 kg_4_4 (s4_4r hr0) ?_
  refine t_l fX4_copy_45 rfl rfl rfl rfl ?_
  refine k9_gr fX4_copy_46 (hr1).1 kg_4_4 (s4_4r hr1) ?_
  obtain ⟨V11, v12, e13, h⟩ := bd_some h
  refine kcX7_copy fX4_copy_49 (s4_4s hr0).1 rfl rfl (q_X7_copy (s4_4s hr0) (s4_4s hr1) e13) (by decide) ?_
  refine t_l fX4_copy_52 rfl rfl rfl rfl ?_
  refine t_l fX4_copy_53 rfl rfl rfl rfl ?_
  refine k9_gi fX4_copy_54 (hr1).1 kg_4_5 ?_
  refine k9_pi fX4_copy_57 (hr0).1 kp_4_5 ?_
  replace h := lt_some h
  refine t_ret fX4_copy_60 rX4_copy ?_
  exact qf_v h

theorem q_X4_keptCount {X : mX} {n z : Nat} {G : mG} {r0 : Nat} (hr0 : is4 G r0) {V V' : mV} {v : Int} (h : F_X4_keptCount G r0 V = some (V', v)) : Rn X (1) 48 [.ref r0] n z G V n z G V' (some (.int (iI v))) := by
  refine qi_toR (v := v) (L := [some (.ref r0)]) rfl ?_
  unfold F_X4_keptCount at h
  refine t_l fX4_keptCount_0 rfl rfl rfl rfl ?_
  refine k9_gi fX4_keptCount_1 (hr0).1 kg_4_5 ?_
  refine t_s fX4_keptCount_4 rfl rfl rfl ?_
  obtain ⟨g1, h⟩ := gd_some h
  refine kcM_min fX4_keptCount_6 rfl (eM_min g1 ⟨by decide, by decide⟩) (by decide) ?_
  refine t_ret fX4_keptCount_9 rX4_keptCount ?_
  exact qf_i h

theorem q_X4_keptPart {X : mX} {n z : Nat} {G : mG} {r0 : Nat} (hr0 : is4 G r0) {x1 x2 : Int} {V V' : mV} {v : Int} (h : F_X4_keptPart G r0 x1 x2 V = some (V', v)) : Rn X (2) 49 [.ref r0, .int (iI x1), .int (iI x2)] n z G V n z G V' (some (.int (iI v))) := by
  refine qi_toR (v := v) (L := [some (.ref r0), some (.int (iI x1)), some (.int (iI x2)), none]) rfl ?_
  unfold F_X4_keptPart at h
  refine t_l fX4_keptPart_0 rfl rfl rfl rfl ?_
  obtain ⟨g2, h⟩ := gd_some h
  refine k9_if_lt fX4_keptPart_1 rfl g2 (fun c1 => ?_) (fun c1 => ?_)
  · replace h := ite_t (c1) h
    refine t_s fX4_keptPart_21 rfl rfl rfl ?_
    refine t_ret fX4_keptPart_22 rX4_keptPart ?_
    exact qf_i h
  · replace h := ite_f (c1) h
    refine t_l fX4_keptPart_4 rfl rfl rfl rfl ?_
    refine t_l fX4_keptPart_5 rfl rfl rfl rfl ?_
    obtain ⟨V3, v4, e5, h⟩ := bd_some h
    refine kcX4_keptCount fX4_keptPart_6 (hr0).1 rfl (q_X4_keptCount (hr0) e5) (by decide) ?_
    obtain ⟨g7, h⟩ := gd_some h
    refine k9_ic_ge fX4_keptPart_9 rfl g2 g7 (fun c6 => ?_) (fun c6 => ?_)
    · replace h := ite_t (c6) h
      refine t_s fX4_keptPart_21 rfl rfl rfl ?_
      refine t_ret fX4_keptPart_22 rX4_keptPart ?_
      exact qf_i h
    · replace h := ite_f (c6) h
      refine t_l fX4_keptPart_12 rfl rfl rfl rfl ?_
      obtain ⟨g9, h⟩ := gd_some h
      refine k9_if_lt fX4_keptPart_13 rfl g9 (fun c8 => ?_) (fun c8 => ?_)
      · replace h := ite_t (c8) h
        refine t_s fX4_keptPart_21 rfl rfl rfl ?_
        refine t_ret fX4_keptPart_22 rX4_keptPart ?_
        exact qf_i h
      · replace h := ite_f (c8) h
        refine t_l fX4_keptPart_16 rfl rfl rfl rfl ?_
        refine t_s fX4_keptPart_17 rfl rfl rfl ?_
        refine k9_ic_lt fX4_keptPart_18 rfl g9 ⟨by decide, by decide⟩ (fun c10 => ?_) (fun c10 => ?_)
        · replace h := ite_t (c10) h
          refine t_l fX4_keptPart_23 rfl rfl rfl rfl ?_
          refine k9_gi fX4_keptPart_24 (hr0).1 kg_4_5 ?_
          refine t_l fX4_keptPart_27 rfl rfl rfl rfl ?_
          obtain ⟨V11, v12, e13, h⟩ := bd_some h
          refine kcX4_keptCount fX4_keptPart_28 (hr0).1 rfl (q_X4_keptCount (hr0) e13) (by decide) ?_
          refine k9_isub fX4_keptPart_31 ?_
          replace h := lt_some h
          refine t_l fX4_keptPart_32 rfl rfl rfl rfl ?_
          refine t_l fX4_keptPart_33 rfl rfl rfl rfl ?_
          refine k9_gr fX4_keptPart_34 (hr0).1 kg_4_4 (s4_4r hr0) ?_
          refine t_l fX4_keptPart_37 rfl rfl rfl rfl ?_
          refine t_l fX4_keptPart_38 rfl rfl rfl rfl ?_
          refine k9_iadd fX4_keptPart_39 ?_
          refine t_s fX4_keptPart_40 rfl rfl rfl ?_
          obtain ⟨g15, h⟩ := gd_some h
          refine k9_irem fX4_keptPart_42 g15 ⟨by decide, by decide⟩ (by decide) ?_
          refine t_s fX4_keptPart_43 rfl rfl rfl ?_
          refine k9_imul fX4_keptPart_44 ?_
          refine t_l fX4_keptPart_45 rfl rfl rfl rfl ?_
          refine k9_iadd fX4_keptPart_46 ?_
          obtain ⟨V16, v17, e18, h⟩ := bd_some h
          refine kcX7_get fX4_keptPart_47 (s4_4s hr0).1 rfl (q_X7_get (s4_4s hr0) e18) (by decide) ?_
          refine t_ret fX4_keptPart_50 rX4_keptPart ?_
          exact qf_i h
        · replace h := ite_f (c10) h
          refine t_s fX4_keptPart_21 rfl rfl rfl ?_
          refine t_ret fX4_keptPart_22 rX4_keptPart ?_
          exact qf_i h

theorem q_X5_size {X : mX} {n z : Nat} {G : mG} {r0 : Nat} (hr0 : is5 G r0) {V V' : mV} {v : Int} (h : F_X5_size G r0 V = some (V', v)) : Rn X (0) 51 [.ref r0] n z G V n z G V' (some (.int (iI v))) := by
  refine qi_toR (v := v) (L := [some (.ref r0)]) rfl ?_
  unfold F_X5_size at h
  refine t_l fX5_size_0 rfl rfl rfl rfl ?_
  refine k9_gi fX5_size_1 (hr0).1 kg_5_1 ?_
  refine t_ret fX5_size_4 rX5_size ?_
  exact qf_i h

theorem q_X5_clear {X : mX} {n z : Nat} {G : mG} {r0 : Nat} (hr0 : is5 G r0) {V V' : mV} {v : Int} (h : F_X5_clear G r0 V = some (V', v)) : Rn X (0) 52 [.ref r0] n z G V n z G V' none := by
  refine qv_toR (v := v) (L := [some (.ref r0)]) rfl ?_
  unfold F_X5_clear at h
  refine t_l fX5_clear_0 rfl rfl rfl rfl ?_
  refine t_s fX5_clear_1 rfl rfl rfl ?_
  refine k9_pi fX5_clear_2 (hr0).1 kp_5_1 ?_
  replace h := lt_some h
  refine t_ret fX5_clear_5 rX5_clear ?_
  exact qf_v h

theorem q_X5_remember {X : mX} {n z : Nat} {G : mG} {r0 r1 : Nat} (hr0 : is5 G r0) (hr1 : is4 G r1) {V V' : mV} {v : Int} (h : F_X5_remember G r0 r1 V = some (V', v)) : Rn X (3) 53 [.ref r0, .ref r1] n z G V n z G V' none := by
  refine qv_toR (v := v) (L := [some (.ref r0), some (.ref r1), none]) rfl ?_
  unfold F_X5_remember at h
  refine t_l fX5_remember_0 rfl rfl rfl rfl ?_
  refine t_l fX5_remember_1 rfl rfl rfl rfl ?_
  refine k9_gi fX5_remember_2 (hr0).1 kg_5_2 ?_
  obtain ⟨g1, h⟩ := gd_some h
  refine kcX5_slot fX5_remember_5 (hr0).1 rfl (eX5_slot hr0 g1) (by decide) ?_
  refine t_l fX5_remember_8 rfl rfl rfl rfl ?_
  refine t_l fX5_remember_9 rfl rfl rfl rfl ?_
  refine k9_nn fX5_remember_10 rfl ?_
  refine t_l fX5_remember_14 rfl rfl rfl rfl ?_
  refine t_l fX5_remember_15 rfl rfl rfl rfl ?_
  obtain ⟨V2, v3, e4, h⟩ := bd_some h
  refine kcX4_copy fX5_remember_16 (s5_m hr0 _ (by omega)).1 rfl rfl (q_X4_copy (s5_m hr0 _ (by omega)) (hr1) e4) (by decide) ?_
  refine t_l fX5_remember_19 rfl rfl rfl rfl ?_
  refine t_l fX5_remember_20 rfl rfl rfl rfl ?_
  refine k9_gi fX5_remember_21 (hr0).1 kg_5_2 ?_
  refine t_s fX5_remember_24 rfl rfl rfl ?_
  refine k9_iadd fX5_remember_25 ?_
  refine t_s fX5_remember_26 rfl rfl rfl ?_
  obtain ⟨g5, h⟩ := gd_some h
  refine k9_irem fX5_remember_28 g5 ⟨by decide, by decide⟩ (by decide) ?_
  refine k9_pi fX5_remember_29 (hr0).1 kp_5_2 ?_
  replace h := lt_some h
  refine t_l fX5_remember_32 rfl rfl rfl rfl ?_
  refine t_l fX5_remember_33 rfl rfl rfl rfl ?_
  refine k9_gi fX5_remember_34 (hr0).1 kg_5_1 ?_
  refine t_s fX5_remember_37 rfl rfl rfl ?_
  refine k9_iadd fX5_remember_38 ?_
  refine t_s fX5_remember_39 rfl rfl rfl ?_
  obtain ⟨g7, h⟩ := gd_some h
  refine kcM_min fX5_remember_41 rfl (eM_min g7 ⟨by decide, by decide⟩) (by decide) ?_
  refine k9_pi fX5_remember_44 (hr0).1 kp_5_1 ?_
  replace h := lt_some h
  refine t_ret fX5_remember_47 rX5_remember ?_
  exact qf_v h

theorem q_X5_recall {X : mX} {n z : Nat} {G : mG} {r0 r1 : Nat} (hr0 : is5 G r0) (hr1 : is4 G r1) {V V' : mV} {v : Int} (h : F_X5_recall G r0 r1 V = some (V', v)) : Rn X (3) 54 [.ref r0, .ref r1] n z G V n z G V' (some (.int (iI v))) := by
  refine qi_toR (v := v) (L := [some (.ref r0), some (.ref r1), none]) rfl ?_
  unfold F_X5_recall at h
  refine t_l fX5_recall_0 rfl rfl rfl rfl ?_
  refine t_l fX5_recall_1 rfl rfl rfl rfl ?_
  refine k9_gi fX5_recall_2 (hr0).1 kg_5_2 ?_
  refine t_s fX5_recall_5 rfl rfl rfl ?_
  refine k9_isub fX5_recall_6 ?_
  refine t_s fX5_recall_7 rfl rfl rfl ?_
  obtain ⟨g1, h⟩ := gd_some h
  refine kcJ9_floorMod_7cf53 fX5_recall_9 rfl (eJ9_floorMod_7cf53 g1 ⟨by decide, by decide⟩) (by decide) ?_
  obtain ⟨g2, h⟩ := gd_some h
  refine kcX5_slot fX5_recall_12 (hr0).1 rfl (eX5_slot hr0 g2) (by decide) ?_
  refine t_l fX5_recall_15 rfl rfl rfl rfl ?_
  refine t_l fX5_recall_16 rfl rfl rfl rfl ?_
  refine k9_gi fX5_recall_17 (hr0).1 kg_5_1 ?_
  obtain ⟨g4, h⟩ := gd_some h
  refine k9_if_eq fX5_recall_20 rfl g4 (fun c3 => ?_) (fun c3 => ?_)
  · replace h := ite_t (c3) h
    refine t_s fX5_recall_27 rfl rfl rfl ?_
    refine t_ret fX5_recall_28 (rX5_recall _ (by decide)) ?_
    exact qf_i h
  · replace h := ite_f (c3) h
    refine t_l fX5_recall_23 rfl rfl rfl rfl ?_
    refine k9_nn fX5_recall_24 rfl ?_
    refine t_l fX5_recall_29 rfl rfl rfl rfl ?_
    refine t_l fX5_recall_30 rfl rfl rfl rfl ?_
    obtain ⟨V5, v6, e7, h⟩ := bd_some h
    refine kcX4_copy fX5_recall_31 (hr1).1 rfl rfl (q_X4_copy (hr1) (s5_m hr0 _ (by omega)) e7) (by decide) ?_
    refine t_l fX5_recall_34 rfl rfl rfl rfl ?_
    refine t_l fX5_recall_35 rfl rfl rfl rfl ?_
    refine k9_gi fX5_recall_36 (hr0).1 kg_5_2 ?_
    refine t_s fX5_recall_39 rfl rfl rfl ?_
    refine k9_isub fX5_recall_40 ?_
    refine t_s fX5_recall_41 rfl rfl rfl ?_
    obtain ⟨g8, h⟩ := gd_some h
    refine kcJ9_floorMod_7cf53 fX5_recall_43 rfl (eJ9_floorMod_7cf53 g8 ⟨by decide, by decide⟩) (by decide) ?_
    refine k9_pi fX5_recall_46 (hr0).1 kp_5_2 ?_
    replace h := lt_some h
    refine t_l fX5_recall_49 rfl rfl rfl rfl ?_
    refine t_s fX5_recall_50 rfl rfl rfl ?_
    refine k9_gi fX5_recall_51 (hr0).1 kg_5_1 ?_
    refine t_s fX5_recall_54 rfl rfl rfl ?_
    refine k9_isub fX5_recall_55 ?_
    refine k9_pi fX5_recall_56 (hr0).1 kp_5_1 ?_
    replace h := lt_some h
    refine t_s fX5_recall_59 rfl rfl rfl ?_
    refine t_ret fX5_recall_60 (rX5_recall _ (by decide)) ?_
    exact qf_i h

theorem tb_X6_addWords_7 {X : mX} {n z : Nat} {G : mG} {r0 t1 : Nat} (hr0 : is6 G r0) (ht1 : t1 = 1 ∨ t1 = 2) {x2 x3 x4 : Int} {V V' : mV} {q : Nat × Int × Int × Int} {Q : Nat → Nat → mG → mV → Option Value → Prop} (h0 : q.1 = 0 → T X (4) 57 7 [some (.ref r0), some (.retAddr t1), some (.int (iI q.2.1)), some (.int (iI q.2.2.1)), some (.int (iI q.2.2.2))] [] n z G V' Q) (h1 : q.1 = 1 → T X (4) 57 69 [some (.ref r0), some (.retAddr t1), some (.int (iI q.2.1)), some (.int (iI q.2.2.1)), some (.int (iI q.2.2.2))] [] n z G V' Q) (h : B_X6_addWords_7 G r0 t1 x2 x3 x4 V = some (V', q)) : T X (4) 57 7 [some (.ref r0), some (.retAddr t1), some (.int (iI x2)), some (.int (iI x3)), some (.int (iI x4))] [] n z G V Q := by
  unfold B_X6_addWords_7 at h
  refine t_l fX6_addWords_7 rfl rfl rfl rfl ?_
  refine t_l fX6_addWords_9 rfl rfl rfl rfl ?_
  refine k8_slen fX6_addWords_10 ht1 (eJ0_length ht1) (by decide) rfl ?_
  obtain ⟨g2, h⟩ := gd_some h
  obtain ⟨g3, h⟩ := gd_some h
  refine k9_ic_ge fX6_addWords_13 rfl g2 g3 (fun c1 => ?_) (fun c1 => ?_)
  · replace h := ite_t (c1) h
    cases h
    exact h1 rfl
  · replace h := ite_f (c1) h
    refine t_l fX6_addWords_16 rfl rfl rfl rfl ?_
    refine t_l fX6_addWords_17 rfl rfl rfl rfl ?_
    obtain ⟨g4, h⟩ := gd_some h
    refine k8_char fX6_addWords_19 ht1 (eJ0_charAt ht1 g4) (by decide) rfl ?_
    refine t_s fX6_addWords_22 rfl rfl rfl ?_
    obtain ⟨g6, h⟩ := gd_some h
    refine k9_ic_ne fX6_addWords_24 rfl g6 ⟨by decide, by decide⟩ (fun c5 => ?_) (fun c5 => ?_)
    · replace h := ite_f (c5) h
      refine t_l fX6_addWords_42 rfl rfl rfl rfl ?_
      refine t_l fX6_addWords_43 rfl rfl rfl rfl ?_
      refine t_l fX6_addWords_44 rfl rfl rfl rfl ?_
      refine k8_char fX6_addWords_46 ht1 (eJ0_charAt ht1 g4) (by decide) rfl ?_
      refine t_s fX6_addWords_49 rfl rfl rfl ?_
      refine k9_isub fX6_addWords_51 ?_
      refine t_s fX6_addWords_52 rfl rfl rfl ?_
      refine k9_iadd fX6_addWords_53 ?_
      refine t_s fX6_addWords_54 rfl rfl rfl ?_
      refine t_l fX6_addWords_55 rfl rfl rfl rfl ?_
      refine k9_imul fX6_addWords_56 ?_
      obtain ⟨g7, h⟩ := gd_some h
      refine k8_ishl fX6_addWords_57 g7 ?_
      obtain ⟨g8, h⟩ := gd_some h
      refine k8_ior fX6_addWords_58 g8 ?_
      replace h := lt_some h
      refine t_l fX6_addWords_59 rfl rfl rfl rfl ?_
      replace h := lt_some h
      refine k9_iinc fX6_addWords_60 rfl (Nat.le_of_ble_eq_true rfl) rfl ?_
      replace h := lt_some h
      refine k9_iinc fX6_addWords_63 rfl (Nat.le_of_ble_eq_true rfl) rfl ?_
      refine k9_goto fX6_addWords_66 rfl ?_
      cases h
      exact h0 rfl
    · replace h := ite_t (Classical.not_not.mp c5) h
      refine t_l fX6_addWords_27 rfl rfl rfl rfl ?_
      refine k9_gr fX6_addWords_28 (hr0).1 kg_6_5 (s6_5r hr0) ?_
      refine t_l fX6_addWords_31 rfl rfl rfl rfl ?_
      obtain ⟨V12, v13, e14, h⟩ := bd_some h
      refine kcX7_add fX6_addWords_32 (s6_5s hr0).1 rfl (q_X7_add (s6_5s hr0) e14) (by decide) ?_
      refine t_s fX6_addWords_35 rfl rfl rfl ?_
      refine t_l fX6_addWords_36 rfl rfl rfl rfl ?_
      refine t_s fX6_addWords_37 rfl rfl rfl ?_
      refine t_l fX6_addWords_38 rfl rfl rfl rfl ?_
      refine k9_goto fX6_addWords_39 rfl ?_
      replace h := lt_some h
      refine k9_iinc fX6_addWords_63 rfl (Nat.le_of_ble_eq_true rfl) rfl ?_
      refine k9_goto fX6_addWords_66 rfl ?_
      cases h
      exact h0 rfl

theorem tl_X6_addWords_7 {X : mX} {n z : Nat} {G : mG} {r0 t1 : Nat} (hr0 : is6 G r0) (ht1 : t1 = 1 ∨ t1 = 2) {x2 x3 x4 : Int} {V V' : mV} {fu : Nat} {q : Nat × Int × Int × Int} {Q : Nat → Nat → mG → mV → Option Value → Prop} (k1 : q.1 = 1 → T X (4) 57 69 [some (.ref r0), some (.retAddr t1), some (.int (iI q.2.1)), some (.int (iI q.2.2.1)), some (.int (iI q.2.2.2))] [] n z G V' Q) (h : lp (fun (s : Int × Int × Int) V => B_X6_addWords_7 G r0 t1 s.1 s.2.1 s.2.2 V) fu (x2, x3, x4) V = some (V', q)) : T X (4) 57 7 [some (.ref r0), some (.retAddr t1), some (.int (iI x2)), some (.int (iI x3)), some (.int (iI x4))] [] n z G V Q :=
  lp_go (P0 := fun s V => T X (4) 57 7 [some (.ref r0), some (.retAddr t1), some (.int (iI s.1)), some (.int (iI s.2.1)), some (.int (iI s.2.2))] [] n z G V Q) (PE := fun t s V => (t = 1 → T X (4) 57 69 [some (.ref r0), some (.retAddr t1), some (.int (iI s.1)), some (.int (iI s.2.1)), some (.int (iI s.2.2))] [] n z G V Q)) (fun s V V' q hb h0 h1 => tb_X6_addWords_7 hr0 ht1  h0 (fun e => (h1 (by omega)) e) hb) fu (x2, x3, x4) V V' q h k1

theorem q_X6_addWords {X : mX} {n z : Nat} {G : mG} {r0 t1 : Nat} (hr0 : is6 G r0) (ht1 : t1 = 1 ∨ t1 = 2) {V V' : mV} {v : Int} (h : F_X6_addWords G r0 t1 V = some (V', v)) : Rn X (4) 57 [.ref r0, .retAddr t1] n z G V n z G V' none := by
  refine qv_toR (v := v) (L := [some (.ref r0), some (.retAddr t1), none, none, none]) rfl ?_
  unfold F_X6_addWords at h
  refine t_s fX6_addWords_0 rfl rfl rfl ?_
  refine t_l fX6_addWords_1 rfl rfl rfl rfl ?_
  refine t_s fX6_addWords_2 rfl rfl rfl ?_
  refine t_l fX6_addWords_3 rfl rfl rfl rfl ?_
  refine t_s fX6_addWords_4 rfl rfl rfl ?_
  refine t_l fX6_addWords_5 rfl rfl rfl rfl ?_
  obtain ⟨V16, u17, e18, h⟩ := bd_some h
  refine tl_X6_addWords_7 hr0 ht1  (fun e19 => ?_) e18
  refine t_ret fX6_addWords_69 rX6_addWords ?_
  exact qf_v h

theorem tj_X6_put_J15 {X : mX} {n z : Nat} {G : mG} {r0 : Nat} (hr0 : is6 G r0) {x1 x2 x3 x4 s0 : Int} {j5 : Option Value} {V V' : mV} {v : Int} (h : F_X6_put_J15 G r0 x1 x2 x3 x4 s0 V = some (V', v)) : T X (2) 59 15 [some (.ref r0), some (.int (iI x1)), some (.int (iI x2)), some (.int (iI x3)), some (.int (iI x4)), j5] [.int (iI s0)] n z G V (qv n z G V' v) := by
  unfold F_X6_put_J15 at h
  refine t_l fX6_put_15 rfl rfl rfl rfl ?_
  refine t_l fX6_put_17 rfl rfl rfl rfl ?_
  refine k9_gr fX6_put_18 (hr0).1 kg_6_0 (s6_0r hr0) ?_
  refine t_l fX6_put_21 rfl rfl rfl rfl ?_
  obtain ⟨V3, v4, e5, h⟩ := bd_some h
  refine kcX7_add fX6_put_22 (s6_0s hr0).1 rfl (q_X7_add (s6_0s hr0) e5) (by decide) ?_
  refine t_l fX6_put_25 rfl rfl rfl rfl ?_
  refine k9_gr fX6_put_26 (hr0).1 kg_6_1 (s6_1r hr0) ?_
  refine t_l fX6_put_29 rfl rfl rfl rfl ?_
  obtain ⟨V6, v7, e8, h⟩ := bd_some h
  refine kcX7_add fX6_put_30 (s6_1s hr0).1 rfl (q_X7_add (s6_1s hr0) e8) (by decide) ?_
  refine t_l fX6_put_33 rfl rfl rfl rfl ?_
  refine k9_gr fX6_put_34 (hr0).1 kg_6_2 (s6_2r hr0) ?_
  refine t_l fX6_put_37 rfl rfl rfl rfl ?_
  obtain ⟨V9, v10, e11, h⟩ := bd_some h
  refine kcX7_add fX6_put_38 (s6_2s hr0).1 rfl (q_X7_add (s6_2s hr0) e11) (by decide) ?_
  refine t_l fX6_put_41 rfl rfl rfl rfl ?_
  refine k9_gr fX6_put_42 (hr0).1 kg_6_3 (s6_3r hr0) ?_
  refine t_l fX6_put_45 rfl rfl rfl rfl ?_
  obtain ⟨V12, v13, e14, h⟩ := bd_some h
  refine kcX7_add fX6_put_47 (s6_3s hr0).1 rfl (q_X7_add (s6_3s hr0) e14) (by decide) ?_
  refine t_l fX6_put_50 rfl rfl rfl rfl ?_
  refine k9_gr fX6_put_51 (hr0).1 kg_6_4 (s6_4r hr0) ?_
  refine t_l fX6_put_54 rfl rfl rfl rfl ?_
  obtain ⟨g16, h⟩ := gd_some h
  refine k9_if_eq fX6_put_56 rfl g16 (fun c15 => ?_) (fun c15 => ?_)
  · replace h := ite_t (c15) h
    refine t_s fX6_put_71 rfl rfl rfl ?_
    obtain ⟨V17, v18, e19, h⟩ := bd_some h
    refine kcX7_add fX6_put_72 (s6_4s hr0).1 rfl (q_X7_add (s6_4s hr0) e19) (by decide) ?_
    refine t_ret fX6_put_75 rX6_put ?_
    exact qf_v h
  · replace h := ite_f (c15) h
    refine t_l fX6_put_59 rfl rfl rfl rfl ?_
    refine k9_gr fX6_put_60 (hr0).1 kg_6_5 (s6_5r hr0) ?_
    refine t_l fX6_put_63 rfl rfl rfl rfl ?_
    obtain ⟨V20, v21, e22, h⟩ := bd_some h
    refine kcX7_find fX6_put_65 (s6_5s hr0).1 rfl (q_X7_find (s6_5s hr0) e22) (by decide) ?_
    refine k9_goto fX6_put_68 rfl ?_
    obtain ⟨V23, v24, e25, h⟩ := bd_some h
    refine kcX7_add fX6_put_72 (s6_4s hr0).1 rfl (q_X7_add (s6_4s hr0) e25) (by decide) ?_
    refine t_ret fX6_put_75 rX6_put ?_
    exact qf_v h

theorem tj_X6_put_J14 {X : mX} {n z : Nat} {G : mG} {r0 : Nat} (hr0 : is6 G r0) {x1 x2 x3 x4 : Int} {j5 : Option Value} {V V' : mV} {v : Int} (h : F_X6_put_J14 G r0 x1 x2 x3 x4 V = some (V', v)) : T X (2) 59 14 [some (.ref r0), some (.int (iI x1)), some (.int (iI x2)), some (.int (iI x3)), some (.int (iI x4)), j5] [] n z G V (qv n z G V' v) := by
  unfold F_X6_put_J14 at h
  refine t_s fX6_put_14 rfl rfl rfl ?_
  exact tj_X6_put_J15 hr0   h

theorem q_X6_put {X : mX} {n z : Nat} {G : mG} {r0 : Nat} (hr0 : is6 G r0) {x1 x2 x3 x4 : Int} {V V' : mV} {v : Int} (h : F_X6_put G r0 x1 x2 x3 x4 V = some (V', v)) : Rn X (2) 59 [.ref r0, .int (iI x1), .int (iI x2), .int (iI x3), .int (iI x4)] n z G V n z G V' none := by
  refine qv_toR (v := v) (L := [some (.ref r0), some (.int (iI x1)), some (.int (iI x2)), some (.int (iI x3)), some (.int (iI x4)), none]) rfl ?_
  unfold F_X6_put at h
  refine t_l fX6_put_0 rfl rfl rfl rfl ?_
  obtain ⟨g2, h⟩ := gd_some h
  refine k9_if_ne fX6_put_1 rfl g2 (fun c1 => ?_) (fun c1 => ?_)
  · replace h := ite_f (c1) h
    exact tj_X6_put_J14 hr0   h
  · replace h := ite_t (Classical.not_not.mp c1) h
    refine t_l fX6_put_4 rfl rfl rfl rfl ?_
    refine t_s fX6_put_5 rfl rfl rfl ?_
    obtain ⟨g27, h⟩ := gd_some h
    refine k9_ic_gt fX6_put_7 rfl g27 ⟨by decide, by decide⟩ (fun c26 => ?_) (fun c26 => ?_)
    · replace h := ite_t (c26) h
      exact tj_X6_put_J14 hr0   h
    · replace h := ite_f (c26) h
      refine t_s fX6_put_10 rfl rfl rfl ?_
      refine k9_goto fX6_put_11 rfl ?_
      exact tj_X6_put_J15 hr0   h

theorem q_X6_isDigit {X : mX} {n z : Nat} {G : mG}  {x0 : Int} {V V' : mV} {v : Int} (h : F_X6_isDigit G x0 V = some (V', v)) : Rn X (0) 64 [.int (iI x0)] n z G V n z G V' (some (.int (iI v))) := by
  refine qi_toR (v := v) (L := [some (.int (iI x0))]) rfl ?_
  unfold F_X6_isDigit at h
  refine t_l fX6_isDigit_0 rfl rfl rfl rfl ?_
  refine t_s fX6_isDigit_1 rfl rfl rfl ?_
  obtain ⟨g2, h⟩ := gd_some h
  refine k9_ic_lt fX6_isDigit_3 rfl g2 ⟨by decide, by decide⟩ (fun c1 => ?_) (fun c1 => ?_)
  · replace h := ite_t (c1) h
    refine t_s fX6_isDigit_16 rfl rfl rfl ?_
    refine t_ret fX6_isDigit_17 (rX6_isDigit _ (by decide)) ?_
    exact qf_i h
  · replace h := ite_f (c1) h
    refine t_l fX6_isDigit_6 rfl rfl rfl rfl ?_
    refine t_s fX6_isDigit_7 rfl rfl rfl ?_
    refine k9_ic_gt fX6_isDigit_9 rfl g2 ⟨by decide, by decide⟩ (fun c3 => ?_) (fun c3 => ?_)
    · replace h := ite_t (c3) h
      refine t_s fX6_isDigit_16 rfl rfl rfl ?_
      refine t_ret fX6_isDigit_17 (rX6_isDigit _ (by decide)) ?_
      exact qf_i h
    · replace h := ite_f (c3) h
      refine t_s fX6_isDigit_12 rfl rfl rfl ?_
      refine k9_goto fX6_isDigit_13 rfl ?_
      refine t_ret fX6_isDigit_17 (rX6_isDigit _ (by decide)) ?_
      exact qf_i h

theorem q_X6_isLetter {X : mX} {n z : Nat} {G : mG}  {x0 : Int} {V V' : mV} {v : Int} (h : F_X6_isLetter G x0 V = some (V', v)) : Rn X (0) 63 [.int (iI x0)] n z G V n z G V' (some (.int (iI v))) := by
  refine qi_toR (v := v) (L := [some (.int (iI x0))]) rfl ?_
  unfold F_X6_isLetter at h
  refine t_l fX6_isLetter_0 rfl rfl rfl rfl ?_
  refine t_s fX6_isLetter_1 rfl rfl rfl ?_
  obtain ⟨g2, h⟩ := gd_some h
  refine k9_ic_lt fX6_isLetter_3 rfl g2 ⟨by decide, by decide⟩ (fun c1 => ?_) (fun c1 => ?_)
  · replace h := ite_t (c1) h
    refine t_s fX6_isLetter_16 rfl rfl rfl ?_
    refine t_ret fX6_isLetter_17 (rX6_isLetter _ (by decide)) ?_
    exact qf_i h
  · replace h := ite_f (c1) h
    refine t_l fX6_isLetter_6 rfl rfl rfl rfl ?_
    refine t_s fX6_isLetter_7 rfl rfl rfl ?_
    refine k9_ic_gt fX6_isLetter_9 rfl g2 ⟨by decide, by decide⟩ (fun c3 => ?_) (fun c3 => ?_)
    · replace h := ite_t (c3) h
      refine t_s fX6_isLetter_16 rfl rfl rfl ?_
      refine t_ret fX6_isLetter_17 (rX6_isLetter _ (by decide)) ?_
      exact qf_i h
    · replace h := ite_f (c3) h
      refine t_s fX6_isLetter_12 rfl rfl rfl ?_
      refine k9_goto fX6_isLetter_13 rfl ?_
      refine t_ret fX6_isLetter_17 (rX6_isLetter _ (by decide)) ?_
      exact qf_i h

theorem tb_X6_scanNumber_5 {X : mX} {n z : Nat} {G : mG} {r0 r1 : Nat} (hr0 : is6 G r0) (hr1 : is7 G r1) {x2 x3 x4 : Int} {V V' : mV} {q : Nat × Int × Int} {Q : Nat → Nat → mG → mV → Option Value → Prop} (h0 : q.1 = 0 → T X (3) 62 5 [some (.ref r0), some (.ref r1), some (.int (iI x2)), some (.int (iI q.2.1)), some (.int (iI q.2.2))] [] n z G V' Q) (h1 : q.1 = 1 → T X (3) 62 55 [some (.ref r0), some (.ref r1), some (.int (iI x2)), some (.int (iI q.2.1)), some (.int (iI q.2.2))] [] n z G V' Q) (h : B_X6_scanNumber_5 G r0 r1 x2 x3 x4 V = some (V', q)) : T X (3) 62 5 [some (.ref r0), some (.ref r1), some (.int (iI x2)), some (.int (iI x3)), some (.int (iI x4))] [] n z G V Q := by
  unfold B_X6_scanNumber_5 at h
  refine t_l fX6_scanNumber_5 rfl rfl rfl rfl ?_
  refine t_l fX6_scanNumber_7 rfl rfl rfl rfl ?_
  obtain ⟨V1, v2, e3, h⟩ := bd_some h
  refine kcX7_size fX6_scanNumber_8 (hr1).1 rfl (q_X7_size (hr1) e3) (by decide) ?_
  obtain ⟨g5, h⟩ := gd_some h
  obtain ⟨g6, h⟩ := gd_some h
  refine k9_ic_ge fX6_scanNumber_11 rfl g5 g6 (fun c4 => ?_) (fun c4 => ?_)
  · replace h := ite_t (c4) h
    cases h
    exact h1 rfl
  · replace h := ite_f (c4) h
    refine t_l fX6_scanNumber_14 rfl rfl rfl rfl ?_
    refine t_l fX6_scanNumber_15 rfl rfl rfl rfl ?_
    obtain ⟨V7, v8, e9, h⟩ := bd_some h
    refine kcX7_get fX6_scanNumber_17 (hr1).1 rfl (q_X7_get (hr1) e9) (by decide) ?_
    obtain ⟨V10, v11, e12, h⟩ := bd_some h
    refine kcX6_isDigit fX6_scanNumber_20 rfl (q_X6_isDigit  e12) (by decide) ?_
    obtain ⟨g14, h⟩ := gd_some h
    refine k9_if_eq fX6_scanNumber_23 rfl g14 (fun c13 => ?_) (fun c13 => ?_)
    · replace h := ite_t (c13) h
      cases h
      exact h1 rfl
    · replace h := ite_f (c13) h
      refine t_l fX6_scanNumber_26 rfl rfl rfl rfl ?_
      refine t_l fX6_scanNumber_28 rfl rfl rfl rfl ?_
      refine k9_isub fX6_scanNumber_29 ?_
      refine t_s fX6_scanNumber_30 rfl rfl rfl ?_
      obtain ⟨g16, h⟩ := gd_some h
      refine k9_ic_ge fX6_scanNumber_31 rfl g16 ⟨by decide, by decide⟩ (fun c15 => ?_) (fun c15 => ?_)
      · replace h := ite_t (c15) h
        replace h := lt_some h
        refine k9_iinc fX6_scanNumber_49 rfl (Nat.le_of_ble_eq_true rfl) rfl ?_
        refine k9_goto fX6_scanNumber_52 rfl ?_
        cases h
        exact h0 rfl
      · replace h := ite_f (c15) h
        refine t_s fX6_scanNumber_34 rfl rfl rfl ?_
        refine t_l fX6_scanNumber_36 rfl rfl rfl rfl ?_
        refine k9_imul fX6_scanNumber_37 ?_
        refine t_l fX6_scanNumber_38 rfl rfl rfl rfl ?_
        refine t_l fX6_scanNumber_39 rfl rfl rfl rfl ?_
        obtain ⟨V18, v19, e20, h⟩ := bd_some h
        refine kcX7_get fX6_scanNumber_41 (hr1).1 rfl (q_X7_get (hr1) e20) (by decide) ?_
        refine k9_iadd fX6_scanNumber_44 ?_
        refine t_s fX6_scanNumber_45 rfl rfl rfl ?_
        refine k9_isub fX6_scanNumber_47 ?_
        replace h := lt_some h
        refine t_l fX6_scanNumber_48 rfl rfl rfl rfl ?_
        replace h := lt_some h
        refine k9_iinc fX6_scanNumber_49 rfl (Nat.le_of_ble_eq_true rfl) rfl ?_
        refine k9_goto fX6_scanNumber_52 rfl ?_
        cases h
        exact h0 rfl

theorem tl_X6_scanNumber_5 {X : mX} {n z : Nat} {G : mG} {r0 r1 : Nat} (hr0 : is6 G r0) (hr1 : is7 G r1) {x2 x3 x4 : Int} {V V' : mV} {fu : Nat} {q : Nat × Int × Int} {Q : Nat → Nat → mG → mV → Option Value → Prop} (k1 : q.1 = 1 → T X (3) 62 55 [some (.ref r0), some (.ref r1), some (.int (iI x2)), some (.int (iI q.2.1)), some (.int (iI q.2.2))] [] n z G V' Q) (h : lp (fun (s : Int × Int) V => B_X6_scanNumber_5 G r0 r1 x2 s.1 s.2 V) fu (x3, x4) V = some (V', q)) : T X (3) 62 5 [some (.ref r0), some (.ref r1), some (.int (iI x2)), some (.int (iI x3)), some (.int (iI x4))] [] n z G V Q :=
  lp_go (P0 := fun s V => T X (3) 62 5 [some (.ref r0), some (.ref r1), some (.int (iI x2)), some (.int (iI s.1)), some (.int (iI s.2))] [] n z G V Q) (PE := fun t s V => (t = 1 → T X (3) 62 55 [some (.ref r0), some (.ref r1), some (.int (iI x2)), some (.int (iI s.1)), some (.int (iI s.2))] [] n z G V Q)) (fun s V V' q hb h0 h1 => tb_X6_scanNumber_5 hr0 hr1  h0 (fun e => (h1 (by omega)) e) hb) fu (x3, x4) V V' q h k1

theorem tj_X6_scanNumber_J74 {X : mX} {n z : Nat} {G : mG} {r0 r1 : Nat} (hr0 : is6 G r0) (hr1 : is7 G r1) {x2 x3 x4 s1 : Int} {V V' : mV} {v : Int} (h : F_X6_scanNumber_J74 G r0 r1 x2 x3 x4 s1 V = some (V', v)) : T X (3) 62 74 [some (.ref r0), some (.ref r1), some (.int (iI x2)), some (.int (iI x3)), some (.int (iI x4))] [.int (iI s1), .ref r0] n z G V (qi n z G V' v) := by
  unfold F_X6_scanNumber_J74 at h
  refine t_l fX6_scanNumber_74 rfl rfl rfl rfl ?_
  refine t_l fX6_scanNumber_75 rfl rfl rfl rfl ?_
  refine t_l fX6_scanNumber_77 rfl rfl rfl rfl ?_
  refine k9_isub fX6_scanNumber_78 ?_
  refine t_l fX6_scanNumber_79 rfl rfl rfl rfl ?_
  obtain ⟨V35, v36, e37, h⟩ := bd_some h
  refine kcX6_put fX6_scanNumber_80 (hr0).1 rfl (q_X6_put (hr0) e37) (by decide) ?_
  refine t_l fX6_scanNumber_83 rfl rfl rfl rfl ?_
  refine t_ret fX6_scanNumber_85 rX6_scanNumber ?_
  exact qf_i h

theorem tj_X6_scanNumber_J55 {X : mX} {n z : Nat} {G : mG} {r0 r1 : Nat} (hr0 : is6 G r0) (hr1 : is7 G r1) {x2 x3 x4 : Int} {V V' : mV} {v : Int} (h : F_X6_scanNumber_J55 G r0 r1 x2 x3 x4 V = some (V', v)) : T X (3) 62 55 [some (.ref r0), some (.ref r1), some (.int (iI x2)), some (.int (iI x3)), some (.int (iI x4))] [] n z G V (qi n z G V' v) := by
  unfold F_X6_scanNumber_J55 at h
  refine t_l fX6_scanNumber_55 rfl rfl rfl rfl ?_
  refine t_l fX6_scanNumber_56 rfl rfl rfl rfl ?_
  refine t_l fX6_scanNumber_57 rfl rfl rfl rfl ?_
  refine t_s fX6_scanNumber_58 rfl rfl rfl ?_
  refine k9_isub fX6_scanNumber_59 ?_
  obtain ⟨V27, v28, e29, h⟩ := bd_some h
  refine kcX7_get fX6_scanNumber_60 (hr1).1 rfl (q_X7_get (hr1) e29) (by decide) ?_
  obtain ⟨V30, v31, e32, h⟩ := bd_some h
  refine kcX6_isLetter fX6_scanNumber_63 rfl (q_X6_isLetter  e32) (by decide) ?_
  obtain ⟨g34, h⟩ := gd_some h
  refine k9_if_eq fX6_scanNumber_66 rfl g34 (fun c33 => ?_) (fun c33 => ?_)
  · replace h := ite_t (c33) h
    refine t_s fX6_scanNumber_73 rfl rfl rfl ?_
    exact tj_X6_scanNumber_J74 hr0 hr1   h
  · replace h := ite_f (c33) h
    refine t_s fX6_scanNumber_69 rfl rfl rfl ?_
    refine k9_goto fX6_scanNumber_70 rfl ?_
    exact tj_X6_scanNumber_J74 hr0 hr1   h

theorem q_X6_scanNumber {X : mX} {n z : Nat} {G : mG} {r0 r1 : Nat} (hr0 : is6 G r0) (hr1 : is7 G r1) {x2 : Int} {V V' : mV} {v : Int} (h : F_X6_scanNumber G r0 r1 x2 V = some (V', v)) : Rn X (3) 62 [.ref r0, .ref r1, .int (iI x2)] n z G V n z G V' (some (.int (iI v))) := by
  refine qi_toR (v := v) (L := [some (.ref r0), some (.ref r1), some (.int (iI x2)), none, none]) rfl ?_
  unfold F_X6_scanNumber at h
  refine t_s fX6_scanNumber_0 rfl rfl rfl ?_
  refine t_l fX6_scanNumber_1 rfl rfl rfl rfl ?_
  refine t_l fX6_scanNumber_2 rfl rfl rfl rfl ?_
  refine t_l fX6_scanNumber_3 rfl rfl rfl rfl ?_
  obtain ⟨V23, u24, e25, h⟩ := bd_some h
  refine tl_X6_scanNumber_5 hr0 hr1  (fun e26 => ?_) e25
  exact tj_X6_scanNumber_J55 hr0 hr1   h

theorem tb_X6_scanWord_5 {X : mX} {n z : Nat} {G : mG} {r0 r1 : Nat} (hr0 : is6 G r0) (hr1 : is7 G r1) {x2 x3 x4 : Int} {V V' : mV} {q : Nat × Int × Int} {Q : Nat → Nat → mG → mV → Option Value → Prop} (h0 : q.1 = 0 → T X (3) 61 5 [some (.ref r0), some (.ref r1), some (.int (iI x2)), some (.int (iI q.2.1)), some (.int (iI q.2.2))] [] n z G V' Q) (h1 : q.1 = 1 → T X (3) 61 62 [some (.ref r0), some (.ref r1), some (.int (iI x2)), some (.int (iI q.2.1)), some (.int (iI q.2.2))] [] n z G V' Q) (h : B_X6_scanWord_5 G r0 r1 x2 x3 x4 V = some (V', q)) : T X (3) 61 5 [some (.ref r0), some (.ref r1), some (.int (iI x2)), some (.int (iI x3)), some (.int (iI x4))] [] n z G V Q := by
  unfold B_X6_scanWord_5 at h
  refine t_l fX6_scanWord_5 rfl rfl rfl rfl ?_
  refine t_l fX6_scanWord_7 rfl rfl rfl rfl ?_
  obtain ⟨V1, v2, e3, h⟩ := bd_some h
  refine kcX7_size fX6_scanWord_8 (hr1).1 rfl (q_X7_size (hr1) e3) (by decide) ?_
  obtain ⟨g5, h⟩ := gd_some h
  obtain ⟨g6, h⟩ := gd_some h
  refine k9_ic_ge fX6_scanWord_11 rfl g5 g6 (fun c4 => ?_) (fun c4 => ?_)
  · replace h := ite_t (c4) h
    cases h
    exact h1 rfl
  · replace h := ite_f (c4) h
    refine t_l fX6_scanWord_14 rfl rfl rfl rfl ?_
    refine t_l fX6_scanWord_15 rfl rfl rfl rfl ?_
    obtain ⟨V7, v8, e9, h⟩ := bd_some h
    refine kcX7_get fX6_scanWord_17 (hr1).1 rfl (q_X7_get (hr1) e9) (by decide) ?_
    obtain ⟨V10, v11, e12, h⟩ := bd_some h
    refine kcX6_isLetter fX6_scanWord_20 rfl (q_X6_isLetter  e12) (by decide) ?_
    obtain ⟨g14, h⟩ := gd_some h
    refine k9_if_eq fX6_scanWord_23 rfl g14 (fun c13 => ?_) (fun c13 => ?_)
    · replace h := ite_t (c13) h
      cases h
      exact h1 rfl
    · replace h := ite_f (c13) h
      refine t_l fX6_scanWord_26 rfl rfl rfl rfl ?_
      refine t_l fX6_scanWord_28 rfl rfl rfl rfl ?_
      refine k9_isub fX6_scanWord_29 ?_
      refine t_s fX6_scanWord_30 rfl rfl rfl ?_
      obtain ⟨g16, h⟩ := gd_some h
      refine k9_ic_ge fX6_scanWord_32 rfl g16 ⟨by decide, by decide⟩ (fun c15 => ?_) (fun c15 => ?_)
      · replace h := ite_t (c15) h
        replace h := lt_some h
        refine k9_iinc fX6_scanWord_56 rfl (Nat.le_of_ble_eq_true rfl) rfl ?_
        refine k9_goto fX6_scanWord_59 rfl ?_
        cases h
        exact h0 rfl
      · replace h := ite_f (c15) h
        refine t_l fX6_scanWord_35 rfl rfl rfl rfl ?_
        refine t_l fX6_scanWord_36 rfl rfl rfl rfl ?_
        refine t_l fX6_scanWord_37 rfl rfl rfl rfl ?_
        obtain ⟨V18, v19, e20, h⟩ := bd_some h
        refine kcX7_get fX6_scanWord_39 (hr1).1 rfl (q_X7_get (hr1) e20) (by decide) ?_
        refine t_s fX6_scanWord_42 rfl rfl rfl ?_
        refine k9_isub fX6_scanWord_44 ?_
        refine t_s fX6_scanWord_45 rfl rfl rfl ?_
        refine k9_iadd fX6_scanWord_46 ?_
        refine t_s fX6_scanWord_47 rfl rfl rfl ?_
        refine t_l fX6_scanWord_48 rfl rfl rfl rfl ?_
        refine t_l fX6_scanWord_50 rfl rfl rfl rfl ?_
        refine k9_isub fX6_scanWord_51 ?_
        refine k9_imul fX6_scanWord_52 ?_
        obtain ⟨g21, h⟩ := gd_some h
        refine k8_ishl fX6_scanWord_53 g21 ?_
        obtain ⟨g22, h⟩ := gd_some h
        refine k8_ior fX6_scanWord_54 g22 ?_
        replace h := lt_some h
        refine t_l fX6_scanWord_55 rfl rfl rfl rfl ?_
        replace h := lt_some h
        refine k9_iinc fX6_scanWord_56 rfl (Nat.le_of_ble_eq_true rfl) rfl ?_
        refine k9_goto fX6_scanWord_59 rfl ?_
        cases h
        exact h0 rfl

theorem tl_X6_scanWord_5 {X : mX} {n z : Nat} {G : mG} {r0 r1 : Nat} (hr0 : is6 G r0) (hr1 : is7 G r1) {x2 x3 x4 : Int} {V V' : mV} {fu : Nat} {q : Nat × Int × Int} {Q : Nat → Nat → mG → mV → Option Value → Prop} (k1 : q.1 = 1 → T X (3) 61 62 [some (.ref r0), some (.ref r1), some (.int (iI x2)), some (.int (iI q.2.1)), some (.int (iI q.2.2))] [] n z G V' Q) (h : lp (fun (s : Int × Int) V => B_X6_scanWord_5 G r0 r1 x2 s.1 s.2 V) fu (x3, x4) V = some (V', q)) : T X (3) 61 5 [some (.ref r0), some (.ref r1), some (.int (iI x2)), some (.int (iI x3)), some (.int (iI x4))] [] n z G V Q :=
  lp_go (P0 := fun s V => T X (3) 61 5 [some (.ref r0), some (.ref r1), some (.int (iI x2)), some (.int (iI s.1)), some (.int (iI s.2))] [] n z G V Q) (PE := fun t s V => (t = 1 → T X (3) 61 62 [some (.ref r0), some (.ref r1), some (.int (iI x2)), some (.int (iI s.1)), some (.int (iI s.2))] [] n z G V Q)) (fun s V V' q hb h0 h1 => tb_X6_scanWord_5 hr0 hr1  h0 (fun e => (h1 (by omega)) e) hb) fu (x3, x4) V V' q h k1

theorem tj_X6_scanWord_J81 {X : mX} {n z : Nat} {G : mG} {r0 r1 : Nat} (hr0 : is6 G r0) (hr1 : is7 G r1) {x2 x3 x4 s1 : Int} {V V' : mV} {v : Int} (h : F_X6_scanWord_J81 G r0 r1 x2 x3 x4 s1 V = some (V', v)) : T X (3) 61 81 [some (.ref r0), some (.ref r1), some (.int (iI x2)), some (.int (iI x3)), some (.int (iI x4))] [.int (iI s1), .ref r0] n z G V (qi n z G V' v) := by
  unfold F_X6_scanWord_J81 at h
  refine t_l fX6_scanWord_81 rfl rfl rfl rfl ?_
  refine t_l fX6_scanWord_82 rfl rfl rfl rfl ?_
  refine t_l fX6_scanWord_84 rfl rfl rfl rfl ?_
  refine k9_isub fX6_scanWord_85 ?_
  refine t_l fX6_scanWord_86 rfl rfl rfl rfl ?_
  obtain ⟨V37, v38, e39, h⟩ := bd_some h
  refine kcX6_put fX6_scanWord_87 (hr0).1 rfl (q_X6_put (hr0) e39) (by decide) ?_
  refine t_l fX6_scanWord_90 rfl rfl rfl rfl ?_
  refine t_ret fX6_scanWord_92 rX6_scanWord ?_
  exact qf_i h

theorem tj_X6_scanWord_J62 {X : mX} {n z : Nat} {G : mG} {r0 r1 : Nat} (hr0 : is6 G r0) (hr1 : is7 G r1) {x2 x3 x4 : Int} {V V' : mV} {v : Int} (h : F_X6_scanWord_J62 G r0 r1 x2 x3 x4 V = some (V', v)) : T X (3) 61 62 [some (.ref r0), some (.ref r1), some (.int (iI x2)), some (.int (iI x3)), some (.int (iI x4))] [] n z G V (qi n z G V' v) := by
  unfold F_X6_scanWord_J62 at h
  refine t_l fX6_scanWord_62 rfl rfl rfl rfl ?_
  refine t_l fX6_scanWord_63 rfl rfl rfl rfl ?_
  refine t_l fX6_scanWord_64 rfl rfl rfl rfl ?_
  refine t_s fX6_scanWord_65 rfl rfl rfl ?_
  refine k9_isub fX6_scanWord_66 ?_
  obtain ⟨V29, v30, e31, h⟩ := bd_some h
  refine kcX7_get fX6_scanWord_67 (hr1).1 rfl (q_X7_get (hr1) e31) (by decide) ?_
  obtain ⟨V32, v33, e34, h⟩ := bd_some h
  refine kcX6_isDigit fX6_scanWord_70 rfl (q_X6_isDigit  e34) (by decide) ?_
  obtain ⟨g36, h⟩ := gd_some h
  refine k9_if_eq fX6_scanWord_73 rfl g36 (fun c35 => ?_) (fun c35 => ?_)
  · replace h := ite_t (c35) h
    refine t_s fX6_scanWord_80 rfl rfl rfl ?_
    exact tj_X6_scanWord_J81 hr0 hr1   h
  · replace h := ite_f (c35) h
    refine t_s fX6_scanWord_76 rfl rfl rfl ?_
    refine k9_goto fX6_scanWord_77 rfl ?_
    exact tj_X6_scanWord_J81 hr0 hr1   h

theorem q_X6_scanWord {X : mX} {n z : Nat} {G : mG} {r0 r1 : Nat} (hr0 : is6 G r0) (hr1 : is7 G r1) {x2 : Int} {V V' : mV} {v : Int} (h : F_X6_scanWord G r0 r1 x2 V = some (V', v)) : Rn X (3) 61 [.ref r0, .ref r1, .int (iI x2)] n z G V n z G V' (some (.int (iI v))) := by
  refine qi_toR (v := v) (L := [some (.ref r0), some (.ref r1), some (.int (iI x2)), none, none]) rfl ?_
  unfold F_X6_scanWord at h
  refine t_s fX6_scanWord_0 rfl rfl rfl ?_
  refine t_l fX6_scanWord_1 rfl rfl rfl rfl ?_
  refine t_l fX6_scanWord_2 rfl rfl rfl rfl ?_
  refine t_l fX6_scanWord_3 rfl rfl rfl rfl ?_
  obtain ⟨V25, u26, e27, h⟩ := bd_some h
  refine tl_X6_scanWord_5 hr0 hr1  (fun e28 => ?_) e27
  exact tj_X6_scanWord_J62 hr0 hr1   h

theorem q_X6_scan {X : mX} {n z : Nat} {G : mG} {r0 r1 : Nat} (hr0 : is6 G r0) (hr1 : is7 G r1) {x2 : Int} {V V' : mV} {v : Int} (h : F_X6_scan G r0 r1 x2 V = some (V', v)) : Rn X (4) 60 [.ref r0, .ref r1, .int (iI x2)] n z G V n z G V' (some (.int (iI v))) := by
  refine qi_toR (v := v) (L := [some (.ref r0), some (.ref r1), some (.int (iI x2)), none]) rfl ?_
  unfold F_X6_scan at h
  refine t_l fX6_scan_0 rfl rfl rfl rfl ?_
  refine t_l fX6_scan_1 rfl rfl rfl rfl ?_
  obtain ⟨V1, v2, e3, h⟩ := bd_some h
  refine kcX7_get fX6_scan_2 (hr1).1 rfl (q_X7_get (hr1) e3) (by decide) ?_
  refine t_l fX6_scan_5 rfl rfl rfl rfl ?_
  refine t_l fX6_scan_6 rfl rfl rfl rfl ?_
  refine t_s fX6_scan_7 rfl rfl rfl ?_
  obtain ⟨g5, h⟩ := gd_some h
  refine k9_ic_eq fX6_scan_9 rfl g5 ⟨by decide, by decide⟩ (fun c4 => ?_) (fun c4 => ?_)
  · replace h := ite_t (c4) h
    refine t_l fX6_scan_18 rfl rfl rfl rfl ?_
    refine t_s fX6_scan_19 rfl rfl rfl ?_
    refine k9_iadd fX6_scan_20 ?_
    refine t_ret fX6_scan_21 rX6_scan ?_
    exact qf_i h
  · replace h := ite_f (c4) h
    refine t_l fX6_scan_12 rfl rfl rfl rfl ?_
    refine t_s fX6_scan_13 rfl rfl rfl ?_
    refine k9_ic_ne fX6_scan_15 rfl g5 ⟨by decide, by decide⟩ (fun c6 => ?_) (fun c6 => ?_)
    · replace h := ite_f (c6) h
      refine t_l fX6_scan_22 rfl rfl rfl rfl ?_
      obtain ⟨V7, v8, e9, h⟩ := bd_some h
      refine kcX6_isLetter fX6_scan_23 rfl (q_X6_isLetter  e9) (by decide) ?_
      obtain ⟨g11, h⟩ := gd_some h
      refine k9_if_eq fX6_scan_26 rfl g11 (fun c10 => ?_) (fun c10 => ?_)
      · replace h := ite_t (c10) h
        refine t_l fX6_scan_36 rfl rfl rfl rfl ?_
        obtain ⟨V12, v13, e14, h⟩ := bd_some h
        refine kcX6_isDigit fX6_scan_37 rfl (q_X6_isDigit  e14) (by decide) ?_
        obtain ⟨g16, h⟩ := gd_some h
        refine k9_if_eq fX6_scan_40 rfl g16 (fun c15 => ?_) (fun c15 => ?_)
        · replace h := ite_t (c15) h
          refine t_l fX6_scan_50 rfl rfl rfl rfl ?_
          refine t_s fX6_scan_51 rfl rfl rfl ?_
          refine t_l fX6_scan_52 rfl rfl rfl rfl ?_
          refine t_s fX6_scan_53 rfl rfl rfl ?_
          refine t_l fX6_scan_54 rfl rfl rfl rfl ?_
          obtain ⟨V17, v18, e19, h⟩ := bd_some h
          refine kcX6_put fX6_scan_55 (hr0).1 rfl (q_X6_put (hr0) e19) (by decide) ?_
          refine t_l fX6_scan_58 rfl rfl rfl rfl ?_
          refine t_s fX6_scan_59 rfl rfl rfl ?_
          refine k9_iadd fX6_scan_60 ?_
          refine t_ret fX6_scan_61 rX6_scan ?_
          exact qf_i h
        · replace h := ite_f (c15) h
          refine t_l fX6_scan_43 rfl rfl rfl rfl ?_
          refine t_l fX6_scan_44 rfl rfl rfl rfl ?_
          refine t_l fX6_scan_45 rfl rfl rfl rfl ?_
          obtain ⟨V20, v21, e22, h⟩ := bd_some h
          refine kcX6_scanNumber fX6_scan_46 (hr0).1 rfl rfl (q_X6_scanNumber (hr0) (hr1) e22) (by decide) ?_
          refine t_ret fX6_scan_49 rX6_scan ?_
          exact qf_i h
      · replace h := ite_f (c10) h
        refine t_l fX6_scan_29 rfl rfl rfl rfl ?_
        refine t_l fX6_scan_30 rfl rfl rfl rfl ?_
        refine t_l fX6_scan_31 rfl rfl rfl rfl ?_
        obtain ⟨V23, v24, e25, h⟩ := bd_some h
        refine kcX6_scanWord fX6_scan_32 (hr0).1 rfl rfl (q_X6_scanWord (hr0) (hr1) e25) (by decide) ?_
        refine t_ret fX6_scan_35 rX6_scan ?_
        exact qf_i h
    · replace h := ite_t (Classical.not_not.mp c6) h
      refine t_l fX6_scan_18 rfl rfl rfl rfl ?_
      refine t_s fX6_scan_19 rfl rfl rfl ?_
      refine k9_iadd fX6_scan_20 ?_
      refine t_ret fX6_scan_21 rX6_scan ?_
      exact qf_i h

theorem tb_X6_start_59 {X : mX} {n z : Nat} {G : mG} {r0 r1 : Nat} (hr0 : is6 G r0) (hr1 : is7 G r1) {x2 x3 : Int} {V V' : mV} {q : Nat × Int × Int} {Q : Nat → Nat → mG → mV → Option Value → Prop} (h0 : q.1 = 0 → T X (5) 58 59 [some (.ref r0), some (.ref r1), some (.int (iI q.2.1)), some (.int (iI q.2.2))] [] n z G V' Q) (h1 : q.1 = 1 → T X (5) 58 87 [some (.ref r0), some (.ref r1), some (.int (iI q.2.1)), some (.int (iI q.2.2))] [] n z G V' Q) (h : B_X6_start_59 G r0 r1 x2 x3 V = some (V', q)) : T X (5) 58 59 [some (.ref r0), some (.ref r1), some (.int (iI x2)), some (.int (iI x3))] [] n z G V Q := by
  unfold B_X6_start_59 at h
  refine t_l fX6_start_59 rfl rfl rfl rfl ?_
  refine t_s fX6_start_60 rfl rfl rfl ?_
  obtain ⟨g20, h⟩ := gd_some h
  refine k9_ic_ge fX6_start_63 rfl g20 ⟨by decide, by decide⟩ (fun c19 => ?_) (fun c19 => ?_)
  · replace h := ite_t (c19) h
    cases h
    exact h1 rfl
  · replace h := ite_f (c19) h
    refine t_l fX6_start_66 rfl rfl rfl rfl ?_
    refine t_l fX6_start_67 rfl rfl rfl rfl ?_
    obtain ⟨V21, v22, e23, h⟩ := bd_some h
    refine kcX7_size fX6_start_68 (hr1).1 rfl (q_X7_size (hr1) e23) (by decide) ?_
    obtain ⟨g25, h⟩ := gd_some h
    obtain ⟨g26, h⟩ := gd_some h
    refine k9_ic_ge fX6_start_71 rfl g25 g26 (fun c24 => ?_) (fun c24 => ?_)
    · replace h := ite_t (c24) h
      cases h
      exact h1 rfl
    · replace h := ite_f (c24) h
      refine t_l fX6_start_74 rfl rfl rfl rfl ?_
      refine t_l fX6_start_75 rfl rfl rfl rfl ?_
      refine t_l fX6_start_76 rfl rfl rfl rfl ?_
      obtain ⟨V27, v28, e29, h⟩ := bd_some h
      refine kcX6_scan fX6_start_77 (hr0).1 rfl rfl (q_X6_scan (hr0) (hr1) e29) (by decide) ?_
      refine t_l fX6_start_80 rfl rfl rfl rfl ?_
      replace h := lt_some h
      refine k9_iinc fX6_start_81 rfl (Nat.le_of_ble_eq_true rfl) rfl ?_
      refine k9_goto fX6_start_84 rfl ?_
      cases h
      exact h0 rfl

theorem tl_X6_start_59 {X : mX} {n z : Nat} {G : mG} {r0 r1 : Nat} (hr0 : is6 G r0) (hr1 : is7 G r1) {x2 x3 : Int} {V V' : mV} {fu : Nat} {q : Nat × Int × Int} {Q : Nat → Nat → mG → mV → Option Value → Prop} (k1 : q.1 = 1 → T X (5) 58 87 [some (.ref r0), some (.ref r1), some (.int (iI q.2.1)), some (.int (iI q.2.2))] [] n z G V' Q) (h : lp (fun (s : Int × Int) V => B_X6_start_59 G r0 r1 s.1 s.2 V) fu (x2, x3) V = some (V', q)) : T X (5) 58 59 [some (.ref r0), some (.ref r1), some (.int (iI x2)), some (.int (iI x3))] [] n z G V Q :=
  lp_go (P0 := fun s V => T X (5) 58 59 [some (.ref r0), some (.ref r1), some (.int (iI s.1)), some (.int (iI s.2))] [] n z G V Q) (PE := fun t s V => (t = 1 → T X (5) 58 87 [some (.ref r0), some (.ref r1), some (.int (iI s.1)), some (.int (iI s.2))] [] n z G V Q)) (fun s V V' q hb h0 h1 => tb_X6_start_59 hr0 hr1  h0 (fun e => (h1 (by omega)) e) hb) fu (x2, x3) V V' q h k1

theorem tj_X6_start_J87 {X : mX} {n z : Nat} {G : mG} {r0 r1 : Nat} (hr0 : is6 G r0) (hr1 : is7 G r1) {j2 j3 : Option Value} {V V' : mV} {v : Int} (h : F_X6_start_J87 G r0 r1 V = some (V', v)) : T X (5) 58 87 [some (.ref r0), some (.ref r1), j2, j3] [] n z G V (qv n z G V' v) := by
  unfold F_X6_start_J87 at h
  refine t_l fX6_start_87 rfl rfl rfl rfl ?_
  refine t_s fX6_start_88 rfl rfl rfl ?_
  refine t_l fX6_start_89 rfl rfl rfl rfl ?_
  obtain ⟨V35, v36, e37, h⟩ := bd_some h
  refine kcX7_size fX6_start_90 (hr1).1 rfl (q_X7_size (hr1) e37) (by decide) ?_
  refine t_s fX6_start_93 rfl rfl rfl ?_
  refine t_s fX6_start_94 rfl rfl rfl ?_
  obtain ⟨V38, v39, e40, h⟩ := bd_some h
  refine kcX6_put fX6_start_95 (hr0).1 rfl (q_X6_put (hr0) e40) (by decide) ?_
  refine t_ret fX6_start_98 rX6_start ?_
  exact qf_v h

theorem q_X6_start {X : mX} {n z : Nat} {G : mG} {r0 r1 : Nat} (hr0 : is6 G r0) (hr1 : is7 G r1) {V V' : mV} {v : Int} (h : F_X6_start G r0 r1 V = some (V', v)) : Rn X (5) 58 [.ref r0, .ref r1] n z G V n z G V' none := by
  refine qv_toR (v := v) (L := [some (.ref r0), some (.ref r1), none, none]) rfl ?_
  unfold F_X6_start at h
  refine t_l fX6_start_0 rfl rfl rfl rfl ?_
  refine k9_gr fX6_start_1 (hr0).1 kg_6_0 (s6_0r hr0) ?_
  refine t_s fX6_start_4 rfl rfl rfl ?_
  obtain ⟨V1, v2, e3, h⟩ := bd_some h
  refine kcX7_cut fX6_start_5 (s6_0s hr0).1 rfl (q_X7_cut (s6_0s hr0) e3) (by decide) ?_
  refine t_l fX6_start_8 rfl rfl rfl rfl ?_
  refine k9_gr fX6_start_9 (hr0).1 kg_6_1 (s6_1r hr0) ?_
  refine t_s fX6_start_12 rfl rfl rfl ?_
  obtain ⟨V4, v5, e6, h⟩ := bd_some h
  refine kcX7_cut fX6_start_13 (s6_1s hr0).1 rfl (q_X7_cut (s6_1s hr0) e6) (by decide) ?_
  refine t_l fX6_start_16 rfl rfl rfl rfl ?_
  refine k9_gr fX6_start_17 (hr0).1 kg_6_2 (s6_2r hr0) ?_
  refine t_s fX6_start_20 rfl rfl rfl ?_
  obtain ⟨V7, v8, e9, h⟩ := bd_some h
  refine kcX7_cut fX6_start_21 (s6_2s hr0).1 rfl (q_X7_cut (s6_2s hr0) e9) (by decide) ?_
  refine t_l fX6_start_24 rfl rfl rfl rfl ?_
  refine k9_gr fX6_start_25 (hr0).1 kg_6_3 (s6_3r hr0) ?_
  refine t_s fX6_start_28 rfl rfl rfl ?_
  obtain ⟨V10, v11, e12, h⟩ := bd_some h
  refine kcX7_cut fX6_start_29 (s6_3s hr0).1 rfl (q_X7_cut (s6_3s hr0) e12) (by decide) ?_
  refine t_l fX6_start_32 rfl rfl rfl rfl ?_
  refine k9_gr fX6_start_33 (hr0).1 kg_6_4 (s6_4r hr0) ?_
  refine t_s fX6_start_36 rfl rfl rfl ?_
  obtain ⟨V13, v14, e15, h⟩ := bd_some h
  refine kcX7_cut fX6_start_37 (s6_4s hr0).1 rfl (q_X7_cut (s6_4s hr0) e15) (by decide) ?_
  refine t_l fX6_start_40 rfl rfl rfl rfl ?_
  refine t_s fX6_start_41 rfl rfl rfl ?_
  refine k9_pi fX6_start_42 (hr0).1 kp_6_6 ?_
  replace h := lt_some h
  refine t_l fX6_start_45 rfl rfl rfl rfl ?_
  refine t_s fX6_start_46 rfl rfl rfl ?_
  refine k9_pi fX6_start_47 (hr0).1 kp_6_11 ?_
  replace h := lt_some h
  refine t_l fX6_start_50 rfl rfl rfl rfl ?_
  refine t_s fX6_start_51 rfl rfl rfl ?_
  refine k9_pi fX6_start_52 (hr0).1 kp_6_12 ?_
  replace h := lt_some h
  refine t_s fX6_start_55 rfl rfl rfl ?_
  refine t_l fX6_start_56 rfl rfl rfl rfl ?_
  refine t_s fX6_start_57 rfl rfl rfl ?_
  refine t_l fX6_start_58 rfl rfl rfl rfl ?_
  obtain ⟨V31, u32, e33, h⟩ := bd_some h
  refine tl_X6_start_59 hr0 hr1  (fun e34 => ?_) e33
  exact tj_X6_start_J87 hr0 hr1   h

theorem q_X6_fine {X : mX} {n z : Nat} {G : mG} {r0 : Nat} (hr0 : is6 G r0) {V V' : mV} {v : Int} (h : F_X6_fine G r0 V = some (V', v)) : Rn X (0) 65 [.ref r0] n z G V n z G V' (some (.int (iI v))) := by
  refine qi_toR (v := v) (L := [some (.ref r0)]) rfl ?_
  unfold F_X6_fine at h
  refine t_l fX6_fine_0 rfl rfl rfl rfl ?_
  refine k9_gi fX6_fine_1 (hr0).1 kg_6_11 ?_
  obtain ⟨g2, h⟩ := gd_some h
  refine k9_if_ne fX6_fine_4 rfl g2 (fun c1 => ?_) (fun c1 => ?_)
  · replace h := ite_f (c1) h
    refine t_s fX6_fine_11 rfl rfl rfl ?_
    refine t_ret fX6_fine_12 (rX6_fine _ (by decide)) ?_
    exact qf_i h
  · replace h := ite_t (Classical.not_not.mp c1) h
    refine t_s fX6_fine_7 rfl rfl rfl ?_
    refine k9_goto fX6_fine_8 rfl ?_
    refine t_ret fX6_fine_12 (rX6_fine _ (by decide)) ?_
    exact qf_i h

theorem q_X6_fail {X : mX} {n z : Nat} {G : mG} {r0 : Nat} (hr0 : is6 G r0) {x1 x2 : Int} {V V' : mV} {v : Int} (h : F_X6_fail G r0 x1 x2 V = some (V', v)) : Rn X (0) 66 [.ref r0, .int (iI x1), .int (iI x2)] n z G V n z G V' none := by
  refine qv_toR (v := v) (L := [some (.ref r0), some (.int (iI x1)), some (.int (iI x2))]) rfl ?_
  unfold F_X6_fail at h
  refine t_l fX6_fail_0 rfl rfl rfl rfl ?_
  refine k9_gi fX6_fail_1 (hr0).1 kg_6_11 ?_
  obtain ⟨g2, h⟩ := gd_some h
  refine k9_if_eq fX6_fail_4 rfl g2 (fun c1 => ?_) (fun c1 => ?_)
  · replace h := ite_t (c1) h
    refine t_l fX6_fail_8 rfl rfl rfl rfl ?_
    refine t_l fX6_fail_9 rfl rfl rfl rfl ?_
    refine k9_pi fX6_fail_10 (hr0).1 kp_6_11 ?_
    replace h := lt_some h
    refine t_l fX6_fail_13 rfl rfl rfl rfl ?_
    refine t_l fX6_fail_14 rfl rfl rfl rfl ?_
    refine k9_pi fX6_fail_15 (hr0).1 kp_6_12 ?_
    replace h := lt_some h
    refine t_ret fX6_fail_18 rX6_fail ?_
    exact qf_v h
  · replace h := ite_f (c1) h
    refine t_ret fX6_fail_7 rX6_fail ?_
    exact qf_v h

theorem q_X6_here {X : mX} {n z : Nat} {G : mG} {r0 : Nat} (hr0 : is6 G r0) {V V' : mV} {v : Int} (h : F_X6_here G r0 V = some (V', v)) : Rn X (1) 67 [.ref r0] n z G V n z G V' (some (.int (iI v))) := by
  refine qi_toR (v := v) (L := [some (.ref r0)]) rfl ?_
  unfold F_X6_here at h
  refine t_l fX6_here_0 rfl rfl rfl rfl ?_
  refine k9_gr fX6_here_1 (hr0).1 kg_6_1 (s6_1r hr0) ?_
  refine t_l fX6_here_4 rfl rfl rfl rfl ?_
  refine k9_gi fX6_here_5 (hr0).1 kg_6_6 ?_
  obtain ⟨V1, v2, e3, h⟩ := bd_some h
  refine kcX7_get fX6_here_8 (s6_1s hr0).1 rfl (q_X7_get (s6_1s hr0) e3) (by decide) ?_
  refine t_ret fX6_here_11 rX6_here ?_
  exact qf_i h

theorem q_X6_word {X : mX} {n z : Nat} {G : mG} {r0 : Nat} (hr0 : is6 G r0) {V V' : mV} {v : Int} (h : F_X6_word G r0 V = some (V', v)) : Rn X (1) 68 [.ref r0] n z G V n z G V' (some (.int (iI v))) := by
  refine qi_toR (v := v) (L := [some (.ref r0)]) rfl ?_
  unfold F_X6_word at h
  refine t_l fX6_word_0 rfl rfl rfl rfl ?_
  refine k9_gr fX6_word_1 (hr0).1 kg_6_4 (s6_4r hr0) ?_
  refine t_l fX6_word_4 rfl rfl rfl rfl ?_
  refine k9_gi fX6_word_5 (hr0).1 kg_6_6 ?_
  obtain ⟨V1, v2, e3, h⟩ := bd_some h
  refine kcX7_get fX6_word_8 (s6_4s hr0).1 rfl (q_X7_get (s6_4s hr0) e3) (by decide) ?_
  refine t_ret fX6_word_11 rX6_word ?_
  exact qf_i h

theorem q_X6_isSign {X : mX} {n z : Nat} {G : mG} {r0 : Nat} (hr0 : is6 G r0) {x1 : Int} {V V' : mV} {v : Int} (h : F_X6_isSign G r0 x1 V = some (V', v)) : Rn X (1) 69 [.ref r0, .int (iI x1)] n z G V n z G V' (some (.int (iI v))) := by
  refine qi_toR (v := v) (L := [some (.ref r0), some (.int (iI x1))]) rfl ?_
  unfold F_X6_isSign at h
  refine t_l fX6_isSign_0 rfl rfl rfl rfl ?_
  obtain ⟨V1, v2, e3, h⟩ := bd_some h
  refine kcX6_fine fX6_isSign_1 (hr0).1 rfl (q_X6_fine (hr0) e3) (by decide) ?_
  obtain ⟨g5, h⟩ := gd_some h
  refine k9_if_eq fX6_isSign_4 rfl g5 (fun c4 => ?_) (fun c4 => ?_)
  · replace h := ite_t (c4) h
    refine t_s fX6_isSign_41 rfl rfl rfl ?_
    refine t_ret fX6_isSign_42 (rX6_isSign _ (by decide)) ?_
    exact qf_i h
  · replace h := ite_f (c4) h
    refine t_l fX6_isSign_7 rfl rfl rfl rfl ?_
    refine k9_gr fX6_isSign_8 (hr0).1 kg_6_0 (s6_0r hr0) ?_
    refine t_l fX6_isSign_11 rfl rfl rfl rfl ?_
    refine k9_gi fX6_isSign_12 (hr0).1 kg_6_6 ?_
    obtain ⟨V6, v7, e8, h⟩ := bd_some h
    refine kcX7_get fX6_isSign_15 (s6_0s hr0).1 rfl (q_X7_get (s6_0s hr0) e8) (by decide) ?_
    refine t_s fX6_isSign_18 rfl rfl rfl ?_
    obtain ⟨g10, h⟩ := gd_some h
    refine k9_ic_ne fX6_isSign_19 rfl g10 ⟨by decide, by decide⟩ (fun c9 => ?_) (fun c9 => ?_)
    · replace h := ite_f (c9) h
      refine t_s fX6_isSign_41 rfl rfl rfl ?_
      refine t_ret fX6_isSign_42 (rX6_isSign _ (by decide)) ?_
      exact qf_i h
    · replace h := ite_t (Classical.not_not.mp c9) h
      refine t_l fX6_isSign_22 rfl rfl rfl rfl ?_
      refine k9_gr fX6_isSign_23 (hr0).1 kg_6_3 (s6_3r hr0) ?_
      refine t_l fX6_isSign_26 rfl rfl rfl rfl ?_
      refine k9_gi fX6_isSign_27 (hr0).1 kg_6_6 ?_
      obtain ⟨V11, v12, e13, h⟩ := bd_some h
      refine kcX7_get fX6_isSign_30 (s6_3s hr0).1 rfl (q_X7_get (s6_3s hr0) e13) (by decide) ?_
      refine t_l fX6_isSign_33 rfl rfl rfl rfl ?_
      obtain ⟨g15, h⟩ := gd_some h
      obtain ⟨g16, h⟩ := gd_some h
      refine k9_ic_ne fX6_isSign_34 rfl g15 g16 (fun c14 => ?_) (fun c14 => ?_)
      · replace h := ite_f (c14) h
        refine t_s fX6_isSign_41 rfl rfl rfl ?_
        refine t_ret fX6_isSign_42 (rX6_isSign _ (by decide)) ?_
        exact qf_i h
      · replace h := ite_t (Classical.not_not.mp c14) h
        refine t_s fX6_isSign_37 rfl rfl rfl ?_
        refine k9_goto fX6_isSign_38 rfl ?_
        refine t_ret fX6_isSign_42 (rX6_isSign _ (by decide)) ?_
        exact qf_i h

theorem q_X6_isWord {X : mX} {n z : Nat} {G : mG} {r0 : Nat} (hr0 : is6 G r0) {x1 : Int} {V V' : mV} {v : Int} (h : F_X6_isWord G r0 x1 V = some (V', v)) : Rn X (2) 70 [.ref r0, .int (iI x1)] n z G V n z G V' (some (.int (iI v))) := by
  refine qi_toR (v := v) (L := [some (.ref r0), some (.int (iI x1))]) rfl ?_
  unfold F_X6_isWord at h
  refine t_l fX6_isWord_0 rfl rfl rfl rfl ?_
  obtain ⟨V1, v2, e3, h⟩ := bd_some h
  refine kcX6_fine fX6_isWord_1 (hr0).1 rfl (q_X6_fine (hr0) e3) (by decide) ?_
  obtain ⟨g5, h⟩ := gd_some h
  refine k9_if_eq fX6_isWord_4 rfl g5 (fun c4 => ?_) (fun c4 => ?_)
  · replace h := ite_t (c4) h
    refine t_s fX6_isWord_19 rfl rfl rfl ?_
    refine t_ret fX6_isWord_20 (rX6_isWord _ (by decide)) ?_
    exact qf_i h
  · replace h := ite_f (c4) h
    refine t_l fX6_isWord_7 rfl rfl rfl rfl ?_
    obtain ⟨V6, v7, e8, h⟩ := bd_some h
    refine kcX6_word fX6_isWord_8 (hr0).1 rfl (q_X6_word (hr0) e8) (by decide) ?_
    refine t_l fX6_isWord_11 rfl rfl rfl rfl ?_
    obtain ⟨g10, h⟩ := gd_some h
    obtain ⟨g11, h⟩ := gd_some h
    refine k9_ic_ne fX6_isWord_12 rfl g10 g11 (fun c9 => ?_) (fun c9 => ?_)
    · replace h := ite_f (c9) h
      refine t_s fX6_isWord_19 rfl rfl rfl ?_
      refine t_ret fX6_isWord_20 (rX6_isWord _ (by decide)) ?_
      exact qf_i h
    · replace h := ite_t (Classical.not_not.mp c9) h
      refine t_s fX6_isWord_15 rfl rfl rfl ?_
      refine k9_goto fX6_isWord_16 rfl ?_
      refine t_ret fX6_isWord_20 (rX6_isWord _ (by decide)) ?_
      exact qf_i h

theorem q_X6_take {X : mX} {n z : Nat} {G : mG} {r0 : Nat} (hr0 : is6 G r0) {V V' : mV} {v : Int} (h : F_X6_take G r0 V = some (V', v)) : Rn X (1) 71 [.ref r0] n z G V n z G V' none := by
  refine qv_toR (v := v) (L := [some (.ref r0)]) rfl ?_
  unfold F_X6_take at h
  refine t_l fX6_take_0 rfl rfl rfl rfl ?_
  obtain ⟨V1, v2, e3, h⟩ := bd_some h
  refine kcX6_fine fX6_take_1 (hr0).1 rfl (q_X6_fine (hr0) e3) (by decide) ?_
  obtain ⟨g5, h⟩ := gd_some h
  refine k9_if_eq fX6_take_4 rfl g5 (fun c4 => ?_) (fun c4 => ?_)
  · replace h := ite_t (c4) h
    refine t_ret fX6_take_32 rX6_take ?_
    exact qf_v h
  · replace h := ite_f (c4) h
    refine t_l fX6_take_7 rfl rfl rfl rfl ?_
    refine k9_gr fX6_take_8 (hr0).1 kg_6_0 (s6_0r hr0) ?_
    refine t_l fX6_take_11 rfl rfl rfl rfl ?_
    refine k9_gi fX6_take_12 (hr0).1 kg_6_6 ?_
    obtain ⟨V6, v7, e8, h⟩ := bd_some h
    refine kcX7_get fX6_take_15 (s6_0s hr0).1 rfl (q_X7_get (s6_0s hr0) e8) (by decide) ?_
    refine t_s fX6_take_18 rfl rfl rfl ?_
    obtain ⟨g10, h⟩ := gd_some h
    refine k9_ic_eq fX6_take_19 rfl g10 ⟨by decide, by decide⟩ (fun c9 => ?_) (fun c9 => ?_)
    · replace h := ite_t (c9) h
      refine t_ret fX6_take_32 rX6_take ?_
      exact qf_v h
    · replace h := ite_f (c9) h
      refine t_l fX6_take_22 rfl rfl rfl rfl ?_
      refine t_s fX6_take_23 rfl rfl rfl ?_
      refine k9_gi fX6_take_24 (hr0).1 kg_6_6 ?_
      refine t_s fX6_take_27 rfl rfl rfl ?_
      refine k9_iadd fX6_take_28 ?_
      refine k9_pi fX6_take_29 (hr0).1 kp_6_6 ?_
      replace h := lt_some h
      refine t_ret fX6_take_32 rX6_take ?_
      exact qf_v h

theorem q_X6_takeSign {X : mX} {n z : Nat} {G : mG} {r0 : Nat} (hr0 : is6 G r0) {x1 : Int} {V V' : mV} {v : Int} (h : F_X6_takeSign G r0 x1 V = some (V', v)) : Rn X (2) 72 [.ref r0, .int (iI x1)] n z G V n z G V' none := by
  refine qv_toR (v := v) (L := [some (.ref r0), some (.int (iI x1))]) rfl ?_
  unfold F_X6_takeSign at h
  refine t_l fX6_takeSign_0 rfl rfl rfl rfl ?_
  refine t_l fX6_takeSign_1 rfl rfl rfl rfl ?_
  obtain ⟨V1, v2, e3, h⟩ := bd_some h
  refine kcX6_isSign fX6_takeSign_2 (hr0).1 rfl (q_X6_isSign (hr0) e3) (by decide) ?_
  obtain ⟨g5, h⟩ := gd_some h
  refine k9_if_eq fX6_takeSign_5 rfl g5 (fun c4 => ?_) (fun c4 => ?_)
  · replace h := ite_t (c4) h
    refine t_l fX6_takeSign_15 rfl rfl rfl rfl ?_
    refine t_s fX6_takeSign_16 rfl rfl rfl ?_
    refine t_l fX6_takeSign_17 rfl rfl rfl rfl ?_
    obtain ⟨V6, v7, e8, h⟩ := bd_some h
    refine kcX6_here fX6_takeSign_18 (hr0).1 rfl (q_X6_here (hr0) e8) (by decide) ?_
    obtain ⟨V9, v10, e11, h⟩ := bd_some h
    refine kcX6_fail fX6_takeSign_21 (hr0).1 rfl (q_X6_fail (hr0) e11) (by decide) ?_
    refine t_ret fX6_takeSign_24 rX6_takeSign ?_
    exact qf_v h
  · replace h := ite_f (c4) h
    refine t_l fX6_takeSign_8 rfl rfl rfl rfl ?_
    obtain ⟨V12, v13, e14, h⟩ := bd_some h
    refine kcX6_take fX6_takeSign_9 (hr0).1 rfl (q_X6_take (hr0) e14) (by decide) ?_
    refine k9_goto fX6_takeSign_12 rfl ?_
    refine t_ret fX6_takeSign_24 rX6_takeSign ?_
    exact qf_v h

theorem q_X6_takeWord {X : mX} {n z : Nat} {G : mG} {r0 : Nat} (hr0 : is6 G r0) {x1 : Int} {V V' : mV} {v : Int} (h : F_X6_takeWord G r0 x1 V = some (V', v)) : Rn X (3) 73 [.ref r0, .int (iI x1)] n z G V n z G V' none := by
  refine qv_toR (v := v) (L := [some (.ref r0), some (.int (iI x1))]) rfl ?_
  unfold F_X6_takeWord at h
  refine t_l fX6_takeWord_0 rfl rfl rfl rfl ?_
  refine t_l fX6_takeWord_1 rfl rfl rfl rfl ?_
  obtain ⟨V1, v2, e3, h⟩ := bd_some h
  refine kcX6_isWord fX6_takeWord_2 (hr0).1 rfl (q_X6_isWord (hr0) e3) (by decide) ?_
  obtain ⟨g5, h⟩ := gd_some h
  refine k9_if_eq fX6_takeWord_5 rfl g5 (fun c4 => ?_) (fun c4 => ?_)
  · replace h := ite_t (c4) h
    refine t_l fX6_takeWord_15 rfl rfl rfl rfl ?_
    refine t_s fX6_takeWord_16 rfl rfl rfl ?_
    refine t_l fX6_takeWord_17 rfl rfl rfl rfl ?_
    obtain ⟨V6, v7, e8, h⟩ := bd_some h
    refine kcX6_here fX6_takeWord_18 (hr0).1 rfl (q_X6_here (hr0) e8) (by decide) ?_
    obtain ⟨V9, v10, e11, h⟩ := bd_some h
    refine kcX6_fail fX6_takeWord_21 (hr0).1 rfl (q_X6_fail (hr0) e11) (by decide) ?_
    refine t_ret fX6_takeWord_24 rX6_takeWord ?_
    exact qf_v h
  · replace h := ite_f (c4) h
    refine t_l fX6_takeWord_8 rfl rfl rfl rfl ?_
    obtain ⟨V12, v13, e14, h⟩ := bd_some h
    refine kcX6_take fX6_takeWord_9 (hr0).1 rfl (q_X6_take (hr0) e14) (by decide) ?_
    refine k9_goto fX6_takeWord_12 rfl ?_
    refine t_ret fX6_takeWord_24 rX6_takeWord ?_
    exact qf_v h

theorem tj_X6_takeName_J70 {X : mX} {n z : Nat} {G : mG} {r0 : Nat} (hr0 : is6 G r0) {j1 j2 : Option Value} {V V' : mV} {v : Int} (h : F_X6_takeName_J70 G r0 V = some (V', v)) : T X (2) 74 70 [some (.ref r0), j1, j2] [] n z G V (qi n z G V' v) := by
  unfold F_X6_takeName_J70 at h
  refine t_l fX6_takeName_70 rfl rfl rfl rfl ?_
  refine k9_gr fX6_takeName_71 (hr0).1 kg_6_3 (s6_3r hr0) ?_
  refine t_l fX6_takeName_74 rfl rfl rfl rfl ?_
  refine k9_gi fX6_takeName_75 (hr0).1 kg_6_6 ?_
  obtain ⟨V15, v16, e17, h⟩ := bd_some h
  refine kcX7_get fX6_takeName_78 (s6_3s hr0).1 rfl (q_X7_get (s6_3s hr0) e17) (by decide) ?_
  refine t_l fX6_takeName_81 rfl rfl rfl rfl ?_
  refine t_l fX6_takeName_82 rfl rfl rfl rfl ?_
  obtain ⟨V18, v19, e20, h⟩ := bd_some h
  refine kcX6_take fX6_takeName_83 (hr0).1 rfl (q_X6_take (hr0) e20) (by decide) ?_
  refine t_l fX6_takeName_86 rfl rfl rfl rfl ?_
  refine t_ret fX6_takeName_87 rX6_takeName ?_
  exact qf_i h

theorem tj_X6_takeName_J30 {X : mX} {n z : Nat} {G : mG} {r0 : Nat} (hr0 : is6 G r0) {j1 j2 : Option Value} {V V' : mV} {v : Int} (h : F_X6_takeName_J30 G r0 V = some (V', v)) : T X (2) 74 30 [some (.ref r0), j1, j2] [] n z G V (qi n z G V' v) := by
  unfold F_X6_takeName_J30 at h
  refine t_l fX6_takeName_30 rfl rfl rfl rfl ?_
  refine t_s fX6_takeName_31 rfl rfl rfl ?_
  refine t_l fX6_takeName_32 rfl rfl rfl rfl ?_
  obtain ⟨V9, v10, e11, h⟩ := bd_some h
  refine kcX6_here fX6_takeName_33 (hr0).1 rfl (q_X6_here (hr0) e11) (by decide) ?_
  obtain ⟨V12, v13, e14, h⟩ := bd_some h
  refine kcX6_fail fX6_takeName_36 (hr0).1 rfl (q_X6_fail (hr0) e14) (by decide) ?_
  refine k9_goto fX6_takeName_39 rfl ?_
  exact tj_X6_takeName_J70 hr0   h

theorem tj_X6_takeName_J42 {X : mX} {n z : Nat} {G : mG} {r0 : Nat} (hr0 : is6 G r0) {j1 j2 : Option Value} {V V' : mV} {v : Int} (h : F_X6_takeName_J42 G r0 V = some (V', v)) : T X (2) 74 42 [some (.ref r0), j1, j2] [] n z G V (qi n z G V' v) := by
  unfold F_X6_takeName_J42 at h
  refine t_l fX6_takeName_42 rfl rfl rfl rfl ?_
  refine k9_gr fX6_takeName_43 (hr0).1 kg_6_2 (s6_2r hr0) ?_
  refine t_l fX6_takeName_46 rfl rfl rfl rfl ?_
  refine k9_gi fX6_takeName_47 (hr0).1 kg_6_6 ?_
  obtain ⟨V23, v24, e25, h⟩ := bd_some h
  refine kcX7_get fX6_takeName_50 (s6_2s hr0).1 rfl (q_X7_get (s6_2s hr0) e25) (by decide) ?_
  refine t_s fX6_takeName_53 rfl rfl rfl ?_
  obtain ⟨g27, h⟩ := gd_some h
  refine k9_ic_le fX6_takeName_55 rfl g27 ⟨by decide, by decide⟩ (fun c26 => ?_) (fun c26 => ?_)
  · replace h := ite_t (c26) h
    exact tj_X6_takeName_J70 hr0   h
  · replace h := ite_f (c26) h
    refine t_l fX6_takeName_58 rfl rfl rfl rfl ?_
    refine t_s fX6_takeName_59 rfl rfl rfl ?_
    refine t_l fX6_takeName_60 rfl rfl rfl rfl ?_
    obtain ⟨V28, v29, e30, h⟩ := bd_some h
    refine kcX6_here fX6_takeName_61 (hr0).1 rfl (q_X6_here (hr0) e30) (by decide) ?_
    refine t_s fX6_takeName_64 rfl rfl rfl ?_
    refine k9_iadd fX6_takeName_66 ?_
    obtain ⟨V31, v32, e33, h⟩ := bd_some h
    refine kcX6_fail fX6_takeName_67 (hr0).1 rfl (q_X6_fail (hr0) e33) (by decide) ?_
    exact tj_X6_takeName_J70 hr0   h

theorem q_X6_takeName {X : mX} {n z : Nat} {G : mG} {r0 : Nat} (hr0 : is6 G r0) {V V' : mV} {v : Int} (h : F_X6_takeName G r0 V = some (V', v)) : Rn X (2) 74 [.ref r0] n z G V n z G V' (some (.int (iI v))) := by
  refine qi_toR (v := v) (L := [some (.ref r0), none, none]) rfl ?_
  unfold F_X6_takeName at h
  refine t_l fX6_takeName_0 rfl rfl rfl rfl ?_
  obtain ⟨V1, v2, e3, h⟩ := bd_some h
  refine kcX6_word fX6_takeName_1 (hr0).1 rfl (q_X6_word (hr0) e3) (by decide) ?_
  refine t_l fX6_takeName_4 rfl rfl rfl rfl ?_
  refine t_l fX6_takeName_5 rfl rfl rfl rfl ?_
  refine k9_gr fX6_takeName_6 (hr0).1 kg_6_0 (s6_0r hr0) ?_
  refine t_l fX6_takeName_9 rfl rfl rfl rfl ?_
  refine k9_gi fX6_takeName_10 (hr0).1 kg_6_6 ?_
  obtain ⟨V4, v5, e6, h⟩ := bd_some h
  refine kcX7_get fX6_takeName_13 (s6_0s hr0).1 rfl (q_X7_get (s6_0s hr0) e6) (by decide) ?_
  obtain ⟨g8, h⟩ := gd_some h
  refine k9_if_ne fX6_takeName_16 rfl g8 (fun c7 => ?_) (fun c7 => ?_)
  · replace h := ite_f (c7) h
    exact tj_X6_takeName_J30 hr0   h
  · replace h := ite_t (Classical.not_not.mp c7) h
    refine t_l fX6_takeName_19 rfl rfl rfl rfl ?_
    refine t_s fX6_takeName_20 rfl rfl rfl ?_
    obtain ⟨g22, h⟩ := gd_some h
    refine k9_ic_eq fX6_takeName_21 rfl g22 ⟨by decide, by decide⟩ (fun c21 => ?_) (fun c21 => ?_)
    · replace h := ite_t (c21) h
      exact tj_X6_takeName_J42 hr0   h
    · replace h := ite_f (c21) h
      refine t_l fX6_takeName_24 rfl rfl rfl rfl ?_
      refine t_s fX6_takeName_25 rfl rfl rfl ?_
      refine k9_ic_ge fX6_takeName_27 rfl g22 ⟨by decide, by decide⟩ (fun c34 => ?_) (fun c34 => ?_)
      · replace h := ite_t (c34) h
        exact tj_X6_takeName_J42 hr0   h
      · replace h := ite_f (c34) h
        exact tj_X6_takeName_J30 hr0   h

theorem tj_X6_takeNumber_J80 {X : mX} {n z : Nat} {G : mG} {r0 : Nat} (hr0 : is6 G r0) {x1 : Int} {j2 : Option Value} {V V' : mV} {v : Int} (h : F_X6_takeNumber_J80 G r0 x1 V = some (V', v)) : T X (2) 75 80 [some (.ref r0), some (.int (iI x1)), j2] [] n z G V (qi n z G V' v) := by
  unfold F_X6_takeNumber_J80 at h
  refine t_l fX6_takeNumber_80 rfl rfl rfl rfl ?_
  refine k9_gr fX6_takeNumber_81 (hr0).1 kg_6_3 (s6_3r hr0) ?_
  refine t_l fX6_takeNumber_84 rfl rfl rfl rfl ?_
  refine k9_gi fX6_takeNumber_85 (hr0).1 kg_6_6 ?_
  obtain ⟨V17, v18, e19, h⟩ := bd_some h
  refine kcX7_get fX6_takeNumber_88 (s6_3s hr0).1 rfl (q_X7_get (s6_3s hr0) e19) (by decide) ?_
  refine t_l fX6_takeNumber_91 rfl rfl rfl rfl ?_
  refine t_l fX6_takeNumber_92 rfl rfl rfl rfl ?_
  obtain ⟨V20, v21, e22, h⟩ := bd_some h
  refine kcX6_take fX6_takeNumber_93 (hr0).1 rfl (q_X6_take (hr0) e22) (by decide) ?_
  refine t_l fX6_takeNumber_96 rfl rfl rfl rfl ?_
  refine t_ret fX6_takeNumber_97 rX6_takeNumber ?_
  exact qf_i h

theorem q_X6_takeNumber {X : mX} {n z : Nat} {G : mG} {r0 : Nat} (hr0 : is6 G r0) {x1 : Int} {V V' : mV} {v : Int} (h : F_X6_takeNumber G r0 x1 V = some (V', v)) : Rn X (2) 75 [.ref r0, .int (iI x1)] n z G V n z G V' (some (.int (iI v))) := by
  refine qi_toR (v := v) (L := [some (.ref r0), some (.int (iI x1)), none]) rfl ?_
  unfold F_X6_takeNumber at h
  refine t_l fX6_takeNumber_0 rfl rfl rfl rfl ?_
  refine k9_gr fX6_takeNumber_1 (hr0).1 kg_6_0 (s6_0r hr0) ?_
  refine t_l fX6_takeNumber_4 rfl rfl rfl rfl ?_
  refine k9_gi fX6_takeNumber_5 (hr0).1 kg_6_6 ?_
  obtain ⟨V1, v2, e3, h⟩ := bd_some h
  refine kcX7_get fX6_takeNumber_8 (s6_0s hr0).1 rfl (q_X7_get (s6_0s hr0) e3) (by decide) ?_
  refine t_s fX6_takeNumber_11 rfl rfl rfl ?_
  obtain ⟨g5, h⟩ := gd_some h
  refine k9_ic_eq fX6_takeNumber_12 rfl g5 ⟨by decide, by decide⟩ (fun c4 => ?_) (fun c4 => ?_)
  · replace h := ite_t (c4) h
    refine t_l fX6_takeNumber_27 rfl rfl rfl rfl ?_
    refine k9_gr fX6_takeNumber_28 (hr0).1 kg_6_2 (s6_2r hr0) ?_
    refine t_l fX6_takeNumber_31 rfl rfl rfl rfl ?_
    refine k9_gi fX6_takeNumber_32 (hr0).1 kg_6_6 ?_
    obtain ⟨V6, v7, e8, h⟩ := bd_some h
    refine kcX7_get fX6_takeNumber_35 (s6_2s hr0).1 rfl (q_X7_get (s6_2s hr0) e8) (by decide) ?_
    refine t_s fX6_takeNumber_38 rfl rfl rfl ?_
    obtain ⟨g10, h⟩ := gd_some h
    refine k9_ic_le fX6_takeNumber_39 rfl g10 ⟨by decide, by decide⟩ (fun c9 => ?_) (fun c9 => ?_)
    · replace h := ite_t (c9) h
      refine t_l fX6_takeNumber_56 rfl rfl rfl rfl ?_
      refine k9_gr fX6_takeNumber_57 (hr0).1 kg_6_3 (s6_3r hr0) ?_
      refine t_l fX6_takeNumber_60 rfl rfl rfl rfl ?_
      refine k9_gi fX6_takeNumber_61 (hr0).1 kg_6_6 ?_
      obtain ⟨V11, v12, e13, h⟩ := bd_some h
      refine kcX7_get fX6_takeNumber_64 (s6_3s hr0).1 rfl (q_X7_get (s6_3s hr0) e13) (by decide) ?_
      refine t_l fX6_takeNumber_67 rfl rfl rfl rfl ?_
      obtain ⟨g15, h⟩ := gd_some h
      obtain ⟨g16, h⟩ := gd_some h
      refine k9_ic_le fX6_takeNumber_68 rfl g15 g16 (fun c14 => ?_) (fun c14 => ?_)
      · replace h := ite_t (c14) h
        exact tj_X6_takeNumber_J80 hr0   h
      · replace h := ite_f (c14) h
        refine t_l fX6_takeNumber_71 rfl rfl rfl rfl ?_
        refine t_s fX6_takeNumber_72 rfl rfl rfl ?_
        refine t_l fX6_takeNumber_73 rfl rfl rfl rfl ?_
        obtain ⟨V23, v24, e25, h⟩ := bd_some h
        refine kcX6_here fX6_takeNumber_74 (hr0).1 rfl (q_X6_here (hr0) e25) (by decide) ?_
        obtain ⟨V26, v27, e28, h⟩ := bd_some h
        refine kcX6_fail fX6_takeNumber_77 (hr0).1 rfl (q_X6_fail (hr0) e28) (by decide) ?_
        exact tj_X6_takeNumber_J80 hr0   h
    · replace h := ite_f (c9) h
      refine t_l fX6_takeNumber_42 rfl rfl rfl rfl ?_
      refine t_s fX6_takeNumber_43 rfl rfl rfl ?_
      refine t_l fX6_takeNumber_44 rfl rfl rfl rfl ?_
      obtain ⟨V29, v30, e31, h⟩ := bd_some h
      refine kcX6_here fX6_takeNumber_45 (hr0).1 rfl (q_X6_here (hr0) e31) (by decide) ?_
      refine t_s fX6_takeNumber_48 rfl rfl rfl ?_
      refine k9_iadd fX6_takeNumber_49 ?_
      obtain ⟨V32, v33, e34, h⟩ := bd_some h
      refine kcX6_fail fX6_takeNumber_50 (hr0).1 rfl (q_X6_fail (hr0) e34) (by decide) ?_
      refine k9_goto fX6_takeNumber_53 rfl ?_
      exact tj_X6_takeNumber_J80 hr0   h
  · replace h := ite_f (c4) h
    refine t_l fX6_takeNumber_15 rfl rfl rfl rfl ?_
    refine t_s fX6_takeNumber_16 rfl rfl rfl ?_
    refine t_l fX6_takeNumber_17 rfl rfl rfl rfl ?_
    obtain ⟨V35, v36, e37, h⟩ := bd_some h
    refine kcX6_here fX6_takeNumber_18 (hr0).1 rfl (q_X6_here (hr0) e37) (by decide) ?_
    obtain ⟨V38, v39, e40, h⟩ := bd_some h
    refine kcX6_fail fX6_takeNumber_21 (hr0).1 rfl (q_X6_fail (hr0) e40) (by decide) ?_
    refine k9_goto fX6_takeNumber_24 rfl ?_
    exact tj_X6_takeNumber_J80 hr0   h

theorem q_X6_takeOpening {X : mX} {n z : Nat} {G : mG} {r0 : Nat} (hr0 : is6 G r0) {x1 : Int} {V V' : mV} {v : Int} (h : F_X6_takeOpening G r0 x1 V = some (V', v)) : Rn X (2) 76 [.ref r0, .int (iI x1)] n z G V n z G V' none := by
  refine qv_toR (v := v) (L := [some (.ref r0), some (.int (iI x1))]) rfl ?_
  unfold F_X6_takeOpening at h
  refine t_l fX6_takeOpening_0 rfl rfl rfl rfl ?_
  refine t_s fX6_takeOpening_1 rfl rfl rfl ?_
  obtain ⟨g2, h⟩ := gd_some h
  refine k9_ic_lt fX6_takeOpening_3 rfl g2 ⟨by decide, by decide⟩ (fun c1 => ?_) (fun c1 => ?_)
  · replace h := ite_t (c1) h
    refine t_l fX6_takeOpening_15 rfl rfl rfl rfl ?_
    obtain ⟨V3, v4, e5, h⟩ := bd_some h
    refine kcX6_take fX6_takeOpening_16 (hr0).1 rfl (q_X6_take (hr0) e5) (by decide) ?_
    refine t_ret fX6_takeOpening_19 rX6_takeOpening ?_
    exact qf_v h
  · replace h := ite_f (c1) h
    refine t_l fX6_takeOpening_6 rfl rfl rfl rfl ?_
    refine t_s fX6_takeOpening_7 rfl rfl rfl ?_
    refine t_l fX6_takeOpening_8 rfl rfl rfl rfl ?_
    obtain ⟨V6, v7, e8, h⟩ := bd_some h
    refine kcX6_here fX6_takeOpening_9 (hr0).1 rfl (q_X6_here (hr0) e8) (by decide) ?_
    obtain ⟨V9, v10, e11, h⟩ := bd_some h
    refine kcX6_fail fX6_takeOpening_12 (hr0).1 rfl (q_X6_fail (hr0) e11) (by decide) ?_
    refine t_l fX6_takeOpening_15 rfl rfl rfl rfl ?_
    obtain ⟨V12, v13, e14, h⟩ := bd_some h
    refine kcX6_take fX6_takeOpening_16 (hr0).1 rfl (q_X6_take (hr0) e14) (by decide) ?_
    refine t_ret fX6_takeOpening_19 rX6_takeOpening ?_
    exact qf_v h

theorem q_X6_isTooMany {X : mX} {n z : Nat} {G : mG} {r0 : Nat} (hr0 : is1 G r0) {x1 : Int} {V V' : mV} {v : Int} (h : F_X6_isTooMany G r0 x1 V = some (V', v)) : Rn X (2) 78 [.ref r0, .int (iI x1)] n z G V n z G V' (some (.int (iI v))) := by
  refine qi_toR (v := v) (L := [some (.ref r0), some (.int (iI x1))]) rfl ?_
  unfold F_X6_isTooMany at h
  refine t_l fX6_isTooMany_0 rfl rfl rfl rfl ?_
  obtain ⟨g1, h⟩ := gd_some h
  by_cases c2 : x1 = 0
  · replace h := ite_t c2 h
    refine k9_sw 64 fX6_isTooMany_1 g1 (by rw [c2]; rfl) (by rw [c2]; exact Or.inr (Or.inr rfl)) ?_
    refine t_l fX6_isTooMany_64 rfl rfl rfl rfl ?_
    refine k9_gr fX6_isTooMany_65 (hr0).1 kg_1_0 (s1_0r hr0) ?_
    obtain ⟨V3, v4, e5, h⟩ := bd_some h
    refine kcX7_size fX6_isTooMany_68 (s1_0s hr0).1 rfl (q_X7_size (s1_0s hr0) e5) (by decide) ?_
    refine t_s fX6_isTooMany_71 rfl rfl rfl ?_
    obtain ⟨g7, h⟩ := gd_some h
    refine k9_ic_lt fX6_isTooMany_73 rfl g7 ⟨by decide, by decide⟩ (fun c6 => ?_) (fun c6 => ?_)
    · replace h := ite_t (c6) h
      refine t_s fX6_isTooMany_80 rfl rfl rfl ?_
      refine t_ret fX6_isTooMany_81 (rX6_isTooMany _ (by decide)) ?_
      exact qf_i h
    · replace h := ite_f (c6) h
      refine t_s fX6_isTooMany_76 rfl rfl rfl ?_
      refine k9_goto fX6_isTooMany_77 rfl ?_
      refine t_ret fX6_isTooMany_81 (rX6_isTooMany _ (by decide)) ?_
      exact qf_i h
  replace h := ite_f c2 h
  by_cases c8 : x1 = 2
  · replace h := ite_t c8 h
    refine k9_sw 82 fX6_isTooMany_1 g1 (by rw [c8]; rfl) (by rw [c8]; exact Or.inr (Or.inr rfl)) ?_
    refine t_l fX6_isTooMany_82 rfl rfl rfl rfl ?_
    refine k9_gr fX6_isTooMany_83 (hr0).1 kg_1_5 (s1_5r hr0) ?_
    obtain ⟨V9, v10, e11, h⟩ := bd_some h
    refine kcX7_size fX6_isTooMany_86 (s1_5s hr0).1 rfl (q_X7_size (s1_5s hr0) e11) (by decide) ?_
    refine t_s fX6_isTooMany_89 rfl rfl rfl ?_
    obtain ⟨g13, h⟩ := gd_some h
    refine k9_ic_lt fX6_isTooMany_91 rfl g13 ⟨by decide, by decide⟩ (fun c12 => ?_) (fun c12 => ?_)
    · replace h := ite_t (c12) h
      refine t_s fX6_isTooMany_98 rfl rfl rfl ?_
      refine t_ret fX6_isTooMany_99 (rX6_isTooMany _ (by decide)) ?_
      exact qf_i h
    · replace h := ite_f (c12) h
      refine t_s fX6_isTooMany_94 rfl rfl rfl ?_
      refine k9_goto fX6_isTooMany_95 rfl ?_
      refine t_ret fX6_isTooMany_99 (rX6_isTooMany _ (by decide)) ?_
      exact qf_i h
  replace h := ite_f c8 h
  by_cases c14 : x1 = 4
  · replace h := ite_t c14 h
    refine k9_sw 100 fX6_isTooMany_1 g1 (by rw [c14]; rfl) (by rw [c14]; exact Or.inr (Or.inr rfl)) ?_
    refine t_l fX6_isTooMany_100 rfl rfl rfl rfl ?_
    refine k9_gr fX6_isTooMany_101 (hr0).1 kg_1_7 (s1_7r hr0) ?_
    obtain ⟨V15, v16, e17, h⟩ := bd_some h
    refine kcX7_size fX6_isTooMany_104 (s1_7s hr0).1 rfl (q_X7_size (s1_7s hr0) e17) (by decide) ?_
    refine t_s fX6_isTooMany_107 rfl rfl rfl ?_
    obtain ⟨g19, h⟩ := gd_some h
    refine k9_ic_lt fX6_isTooMany_109 rfl g19 ⟨by decide, by decide⟩ (fun c18 => ?_) (fun c18 => ?_)
    · replace h := ite_t (c18) h
      refine t_s fX6_isTooMany_116 rfl rfl rfl ?_
      refine t_ret fX6_isTooMany_117 (rX6_isTooMany _ (by decide)) ?_
      exact qf_i h
    · replace h := ite_f (c18) h
      refine t_s fX6_isTooMany_112 rfl rfl rfl ?_
      refine k9_goto fX6_isTooMany_113 rfl ?_
      refine t_ret fX6_isTooMany_117 (rX6_isTooMany _ (by decide)) ?_
      exact qf_i h
  replace h := ite_f c14 h
  by_cases c20 : x1 = 8
  · replace h := ite_t c20 h
    refine k9_sw 118 fX6_isTooMany_1 g1 (by rw [c20]; rfl) (by rw [c20]; exact Or.inr (Or.inr rfl)) ?_
    refine t_l fX6_isTooMany_118 rfl rfl rfl rfl ?_
    refine k9_gr fX6_isTooMany_119 (hr0).1 kg_1_10 (s1_10r hr0) ?_
    obtain ⟨V21, v22, e23, h⟩ := bd_some h
    refine kcX3_isTold fX6_isTooMany_122 (s1_10s hr0).1 rfl (q_X3_isTold (s1_10s hr0) e23) (by decide) ?_
    obtain ⟨g24, h⟩ := gd_some h
    refine t_ret fX6_isTooMany_125 (rX6_isTooMany _ g24) ?_
    exact qf_i h
  replace h := ite_f c20 h
  by_cases c25 : x1 = 9
  · replace h := ite_t c25 h
    refine k9_sw 126 fX6_isTooMany_1 g1 (by rw [c25]; rfl) (by rw [c25]; exact Or.inr (Or.inr rfl)) ?_
    refine t_l fX6_isTooMany_126 rfl rfl rfl rfl ?_
    refine k9_gr fX6_isTooMany_127 (hr0).1 kg_1_11 (s1_11r hr0) ?_
    obtain ⟨V26, v27, e28, h⟩ := bd_some h
    refine kcX3_isTold fX6_isTooMany_130 (s1_11s hr0).1 rfl (q_X3_isTold (s1_11s hr0) e28) (by decide) ?_
    obtain ⟨g29, h⟩ := gd_some h
    refine t_ret fX6_isTooMany_133 (rX6_isTooMany _ g29) ?_
    exact qf_i h
  replace h := ite_f c25 h
  by_cases c30 : x1 = 10
  · replace h := ite_t c30 h
    refine k9_sw 134 fX6_isTooMany_1 g1 (by rw [c30]; rfl) (by rw [c30]; exact Or.inr (Or.inr rfl)) ?_
    refine t_l fX6_isTooMany_134 rfl rfl rfl rfl ?_
    refine k9_gr fX6_isTooMany_135 (hr0).1 kg_1_12 (s1_12r hr0) ?_
    obtain ⟨V31, v32, e33, h⟩ := bd_some h
    refine kcX3_isTold fX6_isTooMany_138 (s1_12s hr0).1 rfl (q_X3_isTold (s1_12s hr0) e33) (by decide) ?_
    obtain ⟨g34, h⟩ := gd_some h
    refine t_ret fX6_isTooMany_141 (rX6_isTooMany _ g34) ?_
    exact qf_i h
  replace h := ite_f c30 h
  by_cases c35 : x1 = 11
  · replace h := ite_t c35 h
    refine k9_sw 142 fX6_isTooMany_1 g1 (by rw [c35]; rfl) (by rw [c35]; exact Or.inr (Or.inr rfl)) ?_
    refine t_l fX6_isTooMany_142 rfl rfl rfl rfl ?_
    refine k9_gr fX6_isTooMany_143 (hr0).1 kg_1_13 (s1_13r hr0) ?_
    obtain ⟨V36, v37, e38, h⟩ := bd_some h
    refine kcX3_isTold fX6_isTooMany_146 (s1_13s hr0).1 rfl (q_X3_isTold (s1_13s hr0) e38) (by decide) ?_
    obtain ⟨g39, h⟩ := gd_some h
    refine t_ret fX6_isTooMany_149 (rX6_isTooMany _ g39) ?_
    exact qf_i h
  replace h := ite_f c35 h
  have hd1 : (x1 < 0 ∨ 11 < x1) ∨ x1 = 1 ∨ x1 = 3 ∨ x1 = 5 ∨ x1 = 6 ∨ x1 = 7 := by omega
  refine k9_sw 150 fX6_isTooMany_1 g1 (by rcases hd1 with q | q | q | q | q | q; rw [if_pos q]; rfl; all_goals (rw [q]; rfl)) (by rcases hd1 with q | q | q | q | q | q; omega; all_goals (rw [q]; exact Or.inr (Or.inr rfl))) ?_
  refine t_s fX6_isTooMany_150 rfl rfl rfl ?_
  refine t_ret fX6_isTooMany_151 (rX6_isTooMany _ (by decide)) ?_
  exact qf_i h

theorem tj_X6_readGiven_J55 {X : mX} {n z : Nat} {G : mG} {r0 r1 : Nat} (hr0 : is6 G r0) (hr1 : is1 G r1) {x2 x4 s1 : Int} {j3 j5 : Option Value} {V V' : mV} {v : Int} (h : F_X6_readGiven_J55 G r0 r1 x2 x4 s1 V = some (V', v)) : T X (4) 79 55 [some (.ref r0), some (.ref r1), some (.int (iI x2)), j3, some (.int (iI x4)), j5] [.int (iI s1), .ref r0] n z G V (qv n z G V' v) := by
  unfold F_X6_readGiven_J55 at h
  obtain ⟨V22, v23, e24, h⟩ := bd_some h
  refine kcX6_takeNumber fX6_readGiven_55 (hr0).1 rfl (q_X6_takeNumber (hr0) e24) (by decide) ?_
  refine t_l fX6_readGiven_58 rfl rfl rfl rfl ?_
  refine t_l fX6_readGiven_60 rfl rfl rfl rfl ?_
  obtain ⟨V25, v26, e27, h⟩ := bd_some h
  refine kcX6_fine fX6_readGiven_61 (hr0).1 rfl (q_X6_fine (hr0) e27) (by decide) ?_
  obtain ⟨g29, h⟩ := gd_some h
  refine k9_if_ne fX6_readGiven_64 rfl g29 (fun c28 => ?_) (fun c28 => ?_)
  · replace h := ite_f (c28) h
    refine t_l fX6_readGiven_68 rfl rfl rfl rfl ?_
    obtain ⟨g31, h⟩ := gd_some h
    refine k9_if_ne fX6_readGiven_69 rfl g31 (fun c30 => ?_) (fun c30 => ?_)
    · replace h := ite_f (c30) h
      refine t_l fX6_readGiven_83 rfl rfl rfl rfl ?_
      refine t_l fX6_readGiven_84 rfl rfl rfl rfl ?_
      refine t_l fX6_readGiven_86 rfl rfl rfl rfl ?_
      obtain ⟨V32, v33, e34, h⟩ := bd_some h
      refine kcX1_addTask fX6_readGiven_88 (hr1).1 rfl (q_X1_addTask (hr1) e34) (by decide) ?_
      refine t_ret fX6_readGiven_91 rX6_readGiven ?_
      exact qf_v h
    · replace h := ite_t (Classical.not_not.mp c30) h
      refine t_l fX6_readGiven_72 rfl rfl rfl rfl ?_
      refine t_l fX6_readGiven_73 rfl rfl rfl rfl ?_
      refine t_l fX6_readGiven_75 rfl rfl rfl rfl ?_
      obtain ⟨V35, v36, e37, h⟩ := bd_some h
      refine kcX1_addPerson fX6_readGiven_77 (hr1).1 rfl (q_X1_addPerson (hr1) e37) (by decide) ?_
      refine k9_goto fX6_readGiven_80 rfl ?_
      refine t_ret fX6_readGiven_91 rX6_readGiven ?_
      exact qf_v h
  · replace h := ite_t (Classical.not_not.mp c28) h
    refine t_ret fX6_readGiven_67 rX6_readGiven ?_
    exact qf_v h

theorem tj_X6_readGiven_J40 {X : mX} {n z : Nat} {G : mG} {r0 r1 : Nat} (hr0 : is6 G r0) (hr1 : is1 G r1) {x2 x4 s1 : Int} {j3 j5 : Option Value} {V V' : mV} {v : Int} (h : F_X6_readGiven_J40 G r0 r1 x2 x4 s1 V = some (V', v)) : T X (4) 79 40 [some (.ref r0), some (.ref r1), some (.int (iI x2)), j3, some (.int (iI x4)), j5] [.int (iI s1), .ref r0] n z G V (qv n z G V' v) := by
  unfold F_X6_readGiven_J40 at h
  obtain ⟨V17, v18, e19, h⟩ := bd_some h
  refine kcX6_takeWord fX6_readGiven_40 (hr0).1 rfl (q_X6_takeWord (hr0) e19) (by decide) ?_
  refine t_l fX6_readGiven_43 rfl rfl rfl rfl ?_
  refine t_l fX6_readGiven_44 rfl rfl rfl rfl ?_
  obtain ⟨g21, h⟩ := gd_some h
  refine k9_if_ne fX6_readGiven_45 rfl g21 (fun c20 => ?_) (fun c20 => ?_)
  · replace h := ite_f (c20) h
    refine t_s fX6_readGiven_53 rfl rfl rfl ?_
    exact tj_X6_readGiven_J55 hr0 hr1   h
  · replace h := ite_t (Classical.not_not.mp c20) h
    refine t_s fX6_readGiven_48 rfl rfl rfl ?_
    refine k9_goto fX6_readGiven_50 rfl ?_
    exact tj_X6_readGiven_J55 hr0 hr1   h

theorem tj_X6_readGiven_J30 {X : mX} {n z : Nat} {G : mG} {r0 r1 : Nat} (hr0 : is6 G r0) (hr1 : is1 G r1) {x2 x4 : Int} {j3 j5 : Option Value} {V V' : mV} {v : Int} (h : F_X6_readGiven_J30 G r0 r1 x2 x4 V = some (V', v)) : T X (4) 79 30 [some (.ref r0), some (.ref r1), some (.int (iI x2)), j3, some (.int (iI x4)), j5] [] n z G V (qv n z G V' v) := by
  unfold F_X6_readGiven_J30 at h
  refine t_l fX6_readGiven_30 rfl rfl rfl rfl ?_
  refine t_l fX6_readGiven_31 rfl rfl rfl rfl ?_
  obtain ⟨g16, h⟩ := gd_some h
  refine k9_if_ne fX6_readGiven_32 rfl g16 (fun c15 => ?_) (fun c15 => ?_)
  · replace h := ite_f (c15) h
    refine t_s fX6_readGiven_39 rfl rfl rfl ?_
    exact tj_X6_readGiven_J40 hr0 hr1   h
  · replace h := ite_t (Classical.not_not.mp c15) h
    refine t_s fX6_readGiven_35 rfl rfl rfl ?_
    refine k9_goto fX6_readGiven_36 rfl ?_
    exact tj_X6_readGiven_J40 hr0 hr1   h

theorem q_X6_readGiven {X : mX} {n z : Nat} {G : mG} {r0 r1 : Nat} (hr0 : is6 G r0) (hr1 : is1 G r1) {x2 : Int} {V V' : mV} {v : Int} (h : F_X6_readGiven G r0 r1 x2 V = some (V', v)) : Rn X (4) 79 [.ref r0, .ref r1, .int (iI x2)] n z G V n z G V' none := by
  refine qv_toR (v := v) (L := [some (.ref r0), some (.ref r1), some (.int (iI x2)), none, none, none]) rfl ?_
  unfold F_X6_readGiven at h
  refine t_l fX6_readGiven_0 rfl rfl rfl rfl ?_
  obtain ⟨V1, v2, e3, h⟩ := bd_some h
  refine kcX6_take fX6_readGiven_1 (hr0).1 rfl (q_X6_take (hr0) e3) (by decide) ?_
  refine t_l fX6_readGiven_4 rfl rfl rfl rfl ?_
  obtain ⟨V4, v5, e6, h⟩ := bd_some h
  refine kcX6_here fX6_readGiven_5 (hr0).1 rfl (q_X6_here (hr0) e6) (by decide) ?_
  refine t_l fX6_readGiven_8 rfl rfl rfl rfl ?_
  refine t_l fX6_readGiven_9 rfl rfl rfl rfl ?_
  obtain ⟨V7, v8, e9, h⟩ := bd_some h
  refine kcX6_takeName fX6_readGiven_10 (hr0).1 rfl (q_X6_takeName (hr0) e9) (by decide) ?_
  refine t_l fX6_readGiven_13 rfl rfl rfl rfl ?_
  refine t_l fX6_readGiven_15 rfl rfl rfl rfl ?_
  refine t_l fX6_readGiven_16 rfl rfl rfl rfl ?_
  obtain ⟨V10, v11, e12, h⟩ := bd_some h
  refine kcX1_hasName fX6_readGiven_18 (hr1).1 rfl (q_X1_hasName (hr1) e12) (by decide) ?_
  obtain ⟨g14, h⟩ := gd_some h
  refine k9_if_eq fX6_readGiven_21 rfl g14 (fun c13 => ?_) (fun c13 => ?_)
  · replace h := ite_t (c13) h
    exact tj_X6_readGiven_J30 hr0 hr1   h
  · replace h := ite_f (c13) h
    refine t_l fX6_readGiven_24 rfl rfl rfl rfl ?_
    refine t_s fX6_readGiven_25 rfl rfl rfl ?_
    refine t_l fX6_readGiven_26 rfl rfl rfl rfl ?_
    obtain ⟨V38, v39, e40, h⟩ := bd_some h
    refine kcX6_fail fX6_readGiven_27 (hr0).1 rfl (q_X6_fail (hr0) e40) (by decide) ?_
    exact tj_X6_readGiven_J30 hr0 hr1   h

theorem q_X6_takeKnown {X : mX} {n z : Nat} {G : mG} {r0 r1 : Nat} (hr0 : is6 G r0) (hr1 : is7 G r1) {V V' : mV} {v : Int} (h : F_X6_takeKnown G r0 r1 V = some (V', v)) : Rn X (3) 80 [.ref r0, .ref r1] n z G V n z G V' (some (.int (iI v))) := by
  refine qi_toR (v := v) (L := [some (.ref r0), some (.ref r1), none, none]) rfl ?_
  unfold F_X6_takeKnown at h
  refine t_l fX6_takeKnown_0 rfl rfl rfl rfl ?_
  obtain ⟨V1, v2, e3, h⟩ := bd_some h
  refine kcX6_here fX6_takeKnown_1 (hr0).1 rfl (q_X6_here (hr0) e3) (by decide) ?_
  refine t_l fX6_takeKnown_4 rfl rfl rfl rfl ?_
  refine t_l fX6_takeKnown_5 rfl rfl rfl rfl ?_
  refine t_l fX6_takeKnown_6 rfl rfl rfl rfl ?_
  obtain ⟨V4, v5, e6, h⟩ := bd_some h
  refine kcX6_takeName fX6_takeKnown_7 (hr0).1 rfl (q_X6_takeName (hr0) e6) (by decide) ?_
  obtain ⟨V7, v8, e9, h⟩ := bd_some h
  refine kcX7_find fX6_takeKnown_10 (hr1).1 rfl (q_X7_find (hr1) e9) (by decide) ?_
  refine t_l fX6_takeKnown_13 rfl rfl rfl rfl ?_
  refine t_l fX6_takeKnown_14 rfl rfl rfl rfl ?_
  refine t_s fX6_takeKnown_15 rfl rfl rfl ?_
  obtain ⟨g11, h⟩ := gd_some h
  refine k9_ic_ne fX6_takeKnown_16 rfl g11 ⟨by decide, by decide⟩ (fun c10 => ?_) (fun c10 => ?_)
  · replace h := ite_f (c10) h
    refine t_l fX6_takeKnown_25 rfl rfl rfl rfl ?_
    refine t_ret fX6_takeKnown_26 rX6_takeKnown ?_
    exact qf_i h
  · replace h := ite_t (Classical.not_not.mp c10) h
    refine t_l fX6_takeKnown_19 rfl rfl rfl rfl ?_
    refine t_s fX6_takeKnown_20 rfl rfl rfl ?_
    refine t_l fX6_takeKnown_21 rfl rfl rfl rfl ?_
    obtain ⟨V12, v13, e14, h⟩ := bd_some h
    refine kcX6_fail fX6_takeKnown_22 (hr0).1 rfl (q_X6_fail (hr0) e14) (by decide) ?_
    refine t_l fX6_takeKnown_25 rfl rfl rfl rfl ?_
    refine t_ret fX6_takeKnown_26 rX6_takeKnown ?_
    exact qf_i h

theorem tj_X6_readDuty_J59 {X : mX} {n z : Nat} {G : mG} {r0 r1 : Nat} (hr0 : is6 G r0) (hr1 : is1 G r1) {x2 x3 x5 : Int} {j4 : Option Value} {V V' : mV} {v : Int} (h : F_X6_readDuty_J59 G r0 r1 x2 x3 x5 V = some (V', v)) : T X (4) 81 59 [some (.ref r0), some (.ref r1), some (.int (iI x2)), some (.int (iI x3)), j4, some (.int (iI x5))] [] n z G V (qv n z G V' v) := by
  unfold F_X6_readDuty_J59 at h
  refine t_l fX6_readDuty_59 rfl rfl rfl rfl ?_
  obtain ⟨V24, v25, e26, h⟩ := bd_some h
  refine kcX6_fine fX6_readDuty_60 (hr0).1 rfl (q_X6_fine (hr0) e26) (by decide) ?_
  obtain ⟨g28, h⟩ := gd_some h
  refine k9_if_eq fX6_readDuty_63 rfl g28 (fun c27 => ?_) (fun c27 => ?_)
  · replace h := ite_t (c27) h
    refine t_ret fX6_readDuty_74 rX6_readDuty ?_
    exact qf_v h
  · replace h := ite_f (c27) h
    refine t_l fX6_readDuty_66 rfl rfl rfl rfl ?_
    refine t_l fX6_readDuty_67 rfl rfl rfl rfl ?_
    refine t_l fX6_readDuty_68 rfl rfl rfl rfl ?_
    refine t_l fX6_readDuty_69 rfl rfl rfl rfl ?_
    obtain ⟨V29, v30, e31, h⟩ := bd_some h
    refine kcX1_addDuty fX6_readDuty_71 (hr1).1 rfl (q_X1_addDuty (hr1) e31) (by decide) ?_
    refine t_ret fX6_readDuty_74 rX6_readDuty ?_
    exact qf_v h

theorem q_X6_readDuty {X : mX} {n z : Nat} {G : mG} {r0 r1 : Nat} (hr0 : is6 G r0) (hr1 : is1 G r1) {V V' : mV} {v : Int} (h : F_X6_readDuty G r0 r1 V = some (V', v)) : Rn X (4) 81 [.ref r0, .ref r1] n z G V n z G V' none := by
  refine qv_toR (v := v) (L := [some (.ref r0), some (.ref r1), none, none, none, none]) rfl ?_
  unfold F_X6_readDuty at h
  refine t_l fX6_readDuty_0 rfl rfl rfl rfl ?_
  obtain ⟨V1, v2, e3, h⟩ := bd_some h
  refine kcX6_take fX6_readDuty_1 (hr0).1 rfl (q_X6_take (hr0) e3) (by decide) ?_
  refine t_l fX6_readDuty_4 rfl rfl rfl rfl ?_
  refine t_l fX6_readDuty_5 rfl rfl rfl rfl ?_
  refine k9_gr fX6_readDuty_6 (hr1).1 kg_1_0 (s1_0r hr1) ?_
  obtain ⟨V4, v5, e6, h⟩ := bd_some h
  refine kcX6_takeKnown fX6_readDuty_9 (hr0).1 rfl rfl (q_X6_takeKnown (hr0) (s1_0s hr1) e6) (by decide) ?_
  refine t_l fX6_readDuty_12 rfl rfl rfl rfl ?_
  refine t_l fX6_readDuty_13 rfl rfl rfl rfl ?_
  refine t_l fX6_readDuty_14 rfl rfl rfl rfl ?_
  refine k9_gr fX6_readDuty_15 (hr1).1 kg_1_5 (s1_5r hr1) ?_
  obtain ⟨V7, v8, e9, h⟩ := bd_some h
  refine kcX6_takeKnown fX6_readDuty_18 (hr0).1 rfl rfl (q_X6_takeKnown (hr0) (s1_5s hr1) e9) (by decide) ?_
  refine t_l fX6_readDuty_21 rfl rfl rfl rfl ?_
  refine t_l fX6_readDuty_22 rfl rfl rfl rfl ?_
  refine t_s fX6_readDuty_23 rfl rfl rfl ?_
  obtain ⟨V10, v11, e12, h⟩ := bd_some h
  refine kcX6_takeWord fX6_readDuty_24 (hr0).1 rfl (q_X6_takeWord (hr0) e12) (by decide) ?_
  refine t_l fX6_readDuty_27 rfl rfl rfl rfl ?_
  obtain ⟨V13, v14, e15, h⟩ := bd_some h
  refine kcX6_here fX6_readDuty_28 (hr0).1 rfl (q_X6_here (hr0) e15) (by decide) ?_
  refine t_l fX6_readDuty_31 rfl rfl rfl rfl ?_
  refine t_l fX6_readDuty_33 rfl rfl rfl rfl ?_
  refine t_s fX6_readDuty_34 rfl rfl rfl ?_
  obtain ⟨V16, v17, e18, h⟩ := bd_some h
  refine kcX6_takeNumber fX6_readDuty_36 (hr0).1 rfl (q_X6_takeNumber (hr0) e18) (by decide) ?_
  refine t_l fX6_readDuty_39 rfl rfl rfl rfl ?_
  refine t_l fX6_readDuty_41 rfl rfl rfl rfl ?_
  refine t_l fX6_readDuty_42 rfl rfl rfl rfl ?_
  refine t_l fX6_readDuty_43 rfl rfl rfl rfl ?_
  refine t_l fX6_readDuty_44 rfl rfl rfl rfl ?_
  obtain ⟨V19, v20, e21, h⟩ := bd_some h
  refine kcX1_hasDuty fX6_readDuty_46 (hr1).1 rfl (q_X1_hasDuty (hr1) e21) (by decide) ?_
  obtain ⟨g23, h⟩ := gd_some h
  refine k9_if_eq fX6_readDuty_49 rfl g23 (fun c22 => ?_) (fun c22 => ?_)
  · replace h := ite_t (c22) h
    exact tj_X6_readDuty_J59 hr0 hr1   h
  · replace h := ite_f (c22) h
    refine t_l fX6_readDuty_52 rfl rfl rfl rfl ?_
    refine t_s fX6_readDuty_53 rfl rfl rfl ?_
    refine t_l fX6_readDuty_54 rfl rfl rfl rfl ?_
    obtain ⟨V32, v33, e34, h⟩ := bd_some h
    refine kcX6_fail fX6_readDuty_56 (hr0).1 rfl (q_X6_fail (hr0) e34) (by decide) ?_
    exact tj_X6_readDuty_J59 hr0 hr1   h

theorem tj_X6_readCover_J76 {X : mX} {n z : Nat} {G : mG} {r0 r1 : Nat} (hr0 : is6 G r0) (hr1 : is1 G r1) {x3 x4 : Int} {j2 : Option Value} {V V' : mV} {v : Int} (h : F_X6_readCover_J76 G r0 r1 x3 x4 V = some (V', v)) : T X (4) 82 76 [some (.ref r0), some (.ref r1), j2, some (.int (iI x3)), some (.int (iI x4))] [] n z G V (qv n z G V' v) := by
  unfold F_X6_readCover_J76 at h
  refine t_l fX6_readCover_76 rfl rfl rfl rfl ?_
  obtain ⟨V27, v28, e29, h⟩ := bd_some h
  refine kcX6_fine fX6_readCover_77 (hr0).1 rfl (q_X6_fine (hr0) e29) (by decide) ?_
  obtain ⟨g31, h⟩ := gd_some h
  refine k9_if_ne fX6_readCover_80 rfl g31 (fun c30 => ?_) (fun c30 => ?_)
  · replace h := ite_f (c30) h
    refine t_l fX6_readCover_84 rfl rfl rfl rfl ?_
    refine k9_gr fX6_readCover_85 (hr1).1 kg_1_2 (s1_2r hr1) ?_
    refine t_l fX6_readCover_88 rfl rfl rfl rfl ?_
    refine t_l fX6_readCover_89 rfl rfl rfl rfl ?_
    obtain ⟨V32, v33, e34, h⟩ := bd_some h
    refine kcX7_put fX6_readCover_91 (s1_2s hr1).1 rfl (q_X7_put (s1_2s hr1) e34) (by decide) ?_
    refine t_l fX6_readCover_94 rfl rfl rfl rfl ?_
    refine k9_gr fX6_readCover_95 (hr1).1 kg_1_3 (s1_3r hr1) ?_
    refine t_l fX6_readCover_98 rfl rfl rfl rfl ?_
    refine t_l fX6_readCover_100 rfl rfl rfl rfl ?_
    obtain ⟨V35, v36, e37, h⟩ := bd_some h
    refine kcX7_put fX6_readCover_101 (s1_3s hr1).1 rfl (q_X7_put (s1_3s hr1) e37) (by decide) ?_
    refine t_ret fX6_readCover_104 rX6_readCover ?_
    exact qf_v h
  · replace h := ite_t (Classical.not_not.mp c30) h
    refine t_ret fX6_readCover_83 rX6_readCover ?_
    exact qf_v h

theorem tj_X6_readCover_J70 {X : mX} {n z : Nat} {G : mG} {r0 r1 : Nat} (hr0 : is6 G r0) (hr1 : is1 G r1) {x2 x3 x4 : Int} {V V' : mV} {v : Int} (h : F_X6_readCover_J70 G r0 r1 x2 x3 x4 V = some (V', v)) : T X (4) 82 70 [some (.ref r0), some (.ref r1), some (.int (iI x2)), some (.int (iI x3)), some (.int (iI x4))] [] n z G V (qv n z G V' v) := by
  unfold F_X6_readCover_J70 at h
  refine t_l fX6_readCover_70 rfl rfl rfl rfl ?_
  refine t_s fX6_readCover_71 rfl rfl rfl ?_
  refine t_l fX6_readCover_72 rfl rfl rfl rfl ?_
  obtain ⟨V24, v25, e26, h⟩ := bd_some h
  refine kcX6_fail fX6_readCover_73 (hr0).1 rfl (q_X6_fail (hr0) e26) (by decide) ?_
  exact tj_X6_readCover_J76 hr0 hr1   h

theorem tj_X6_readCover_J36 {X : mX} {n z : Nat} {G : mG} {r0 r1 : Nat} (hr0 : is6 G r0) (hr1 : is1 G r1) {x3 : Int} {j2 j4 : Option Value} {V V' : mV} {v : Int} (h : F_X6_readCover_J36 G r0 r1 x3 V = some (V', v)) : T X (4) 82 36 [some (.ref r0), some (.ref r1), j2, some (.int (iI x3)), j4] [] n z G V (qv n z G V' v) := by
  unfold F_X6_readCover_J36 at h
  refine t_l fX6_readCover_36 rfl rfl rfl rfl ?_
  obtain ⟨V15, v16, e17, h⟩ := bd_some h
  refine kcX6_here fX6_readCover_37 (hr0).1 rfl (q_X6_here (hr0) e17) (by decide) ?_
  refine t_l fX6_readCover_40 rfl rfl rfl rfl ?_
  refine t_l fX6_readCover_41 rfl rfl rfl rfl ?_
  refine t_l fX6_readCover_42 rfl rfl rfl rfl ?_
  refine k9_gr fX6_readCover_43 (hr1).1 kg_1_0 (s1_0r hr1) ?_
  obtain ⟨V18, v19, e20, h⟩ := bd_some h
  refine kcX6_takeKnown fX6_readCover_46 (hr0).1 rfl rfl (q_X6_takeKnown (hr0) (s1_0s hr1) e20) (by decide) ?_
  refine t_l fX6_readCover_49 rfl rfl rfl rfl ?_
  refine t_l fX6_readCover_51 rfl rfl rfl rfl ?_
  refine t_l fX6_readCover_53 rfl rfl rfl rfl ?_
  obtain ⟨g22, h⟩ := gd_some h
  obtain ⟨g23, h⟩ := gd_some h
  refine k9_ic_eq fX6_readCover_54 rfl g22 g23 (fun c21 => ?_) (fun c21 => ?_)
  · replace h := ite_t (c21) h
    exact tj_X6_readCover_J70 hr0 hr1   h
  · replace h := ite_f (c21) h
    refine t_l fX6_readCover_57 rfl rfl rfl rfl ?_
    refine k9_gr fX6_readCover_58 (hr1).1 kg_1_3 (s1_3r hr1) ?_
    refine t_l fX6_readCover_61 rfl rfl rfl rfl ?_
    obtain ⟨V38, v39, e40, h⟩ := bd_some h
    refine kcX7_get fX6_readCover_63 (s1_3s hr1).1 rfl (q_X7_get (s1_3s hr1) e40) (by decide) ?_
    refine t_s fX6_readCover_66 rfl rfl rfl ?_
    obtain ⟨g42, h⟩ := gd_some h
    refine k9_ic_eq fX6_readCover_67 rfl g42 ⟨by decide, by decide⟩ (fun c41 => ?_) (fun c41 => ?_)
    · replace h := ite_t (c41) h
      exact tj_X6_readCover_J76 hr0 hr1   h
    · replace h := ite_f (c41) h
      exact tj_X6_readCover_J70 hr0 hr1   h

theorem q_X6_readCover {X : mX} {n z : Nat} {G : mG} {r0 r1 : Nat} (hr0 : is6 G r0) (hr1 : is1 G r1) {V V' : mV} {v : Int} (h : F_X6_readCover G r0 r1 V = some (V', v)) : Rn X (4) 82 [.ref r0, .ref r1] n z G V n z G V' none := by
  refine qv_toR (v := v) (L := [some (.ref r0), some (.ref r1), none, none, none]) rfl ?_
  unfold F_X6_readCover at h
  refine t_l fX6_readCover_0 rfl rfl rfl rfl ?_
  obtain ⟨V1, v2, e3, h⟩ := bd_some h
  refine kcX6_take fX6_readCover_1 (hr0).1 rfl (q_X6_take (hr0) e3) (by decide) ?_
  refine t_l fX6_readCover_4 rfl rfl rfl rfl ?_
  obtain ⟨V4, v5, e6, h⟩ := bd_some h
  refine kcX6_here fX6_readCover_5 (hr0).1 rfl (q_X6_here (hr0) e6) (by decide) ?_
  refine t_l fX6_readCover_8 rfl rfl rfl rfl ?_
  refine t_l fX6_readCover_9 rfl rfl rfl rfl ?_
  refine t_l fX6_readCover_10 rfl rfl rfl rfl ?_
  refine k9_gr fX6_readCover_11 (hr1).1 kg_1_0 (s1_0r hr1) ?_
  obtain ⟨V7, v8, e9, h⟩ := bd_some h
  refine kcX6_takeKnown fX6_readCover_14 (hr0).1 rfl rfl (q_X6_takeKnown (hr0) (s1_0s hr1) e9) (by decide) ?_
  refine t_l fX6_readCover_17 rfl rfl rfl rfl ?_
  refine t_l fX6_readCover_18 rfl rfl rfl rfl ?_
  refine k9_gr fX6_readCover_19 (hr1).1 kg_1_2 (s1_2r hr1) ?_
  refine t_l fX6_readCover_22 rfl rfl rfl rfl ?_
  obtain ⟨V10, v11, e12, h⟩ := bd_some h
  refine kcX7_get fX6_readCover_23 (s1_2s hr1).1 rfl (q_X7_get (s1_2s hr1) e12) (by decide) ?_
  refine t_s fX6_readCover_26 rfl rfl rfl ?_
  obtain ⟨g14, h⟩ := gd_some h
  refine k9_ic_eq fX6_readCover_27 rfl g14 ⟨by decide, by decide⟩ (fun c13 => ?_) (fun c13 => ?_)
  · replace h := ite_t (c13) h
    exact tj_X6_readCover_J36 hr0 hr1   h
  · replace h := ite_f (c13) h
    refine t_l fX6_readCover_30 rfl rfl rfl rfl ?_
    refine t_s fX6_readCover_31 rfl rfl rfl ?_
    refine t_l fX6_readCover_32 rfl rfl rfl rfl ?_
    obtain ⟨V43, v44, e45, h⟩ := bd_some h
    refine kcX6_fail fX6_readCover_33 (hr0).1 rfl (q_X6_fail (hr0) e45) (by decide) ?_
    exact tj_X6_readCover_J36 hr0 hr1   h

theorem tj_X6_readKnowing_J40 {X : mX} {n z : Nat} {G : mG} {r0 r1 : Nat} (hr0 : is6 G r0) (hr1 : is1 G r1) {x2 x4 : Int} {j3 j5 : Option Value} {V V' : mV} {v : Int} (h : F_X6_readKnowing_J40 G r0 r1 x2 x4 V = some (V', v)) : T X (4) 83 40 [some (.ref r0), some (.ref r1), some (.int (iI x2)), j3, some (.int (iI x4)), j5] [] n z G V (qv n z G V' v) := by
  unfold F_X6_readKnowing_J40 at h
  refine t_l fX6_readKnowing_40 rfl rfl rfl rfl ?_
  refine t_s fX6_readKnowing_41 rfl rfl rfl ?_
  obtain ⟨V16, v17, e18, h⟩ := bd_some h
  refine kcX6_takeNumber fX6_readKnowing_43 (hr0).1 rfl (q_X6_takeNumber (hr0) e18) (by decide) ?_
  refine t_l fX6_readKnowing_46 rfl rfl rfl rfl ?_
  refine t_l fX6_readKnowing_48 rfl rfl rfl rfl ?_
  obtain ⟨V19, v20, e21, h⟩ := bd_some h
  refine kcX6_fine fX6_readKnowing_49 (hr0).1 rfl (q_X6_fine (hr0) e21) (by decide) ?_
  obtain ⟨g23, h⟩ := gd_some h
  refine k9_if_eq fX6_readKnowing_52 rfl g23 (fun c22 => ?_) (fun c22 => ?_)
  · replace h := ite_t (c22) h
    refine t_ret fX6_readKnowing_71 rX6_readKnowing ?_
    exact qf_v h
  · replace h := ite_f (c22) h
    refine t_l fX6_readKnowing_55 rfl rfl rfl rfl ?_
    refine k9_gr fX6_readKnowing_56 (hr1).1 kg_1_4 (s1_4r hr1) ?_
    refine t_l fX6_readKnowing_59 rfl rfl rfl rfl ?_
    refine t_s fX6_readKnowing_60 rfl rfl rfl ?_
    refine k9_imul fX6_readKnowing_62 ?_
    refine t_l fX6_readKnowing_63 rfl rfl rfl rfl ?_
    refine k9_iadd fX6_readKnowing_65 ?_
    refine t_l fX6_readKnowing_66 rfl rfl rfl rfl ?_
    obtain ⟨V24, v25, e26, h⟩ := bd_some h
    refine kcX7_put fX6_readKnowing_68 (s1_4s hr1).1 rfl (q_X7_put (s1_4s hr1) e26) (by decide) ?_
    refine t_ret fX6_readKnowing_71 rX6_readKnowing ?_
    exact qf_v h

theorem q_X6_readKnowing {X : mX} {n z : Nat} {G : mG} {r0 r1 : Nat} (hr0 : is6 G r0) (hr1 : is1 G r1) {V V' : mV} {v : Int} (h : F_X6_readKnowing G r0 r1 V = some (V', v)) : Rn X (4) 83 [.ref r0, .ref r1] n z G V n z G V' none := by
  refine qv_toR (v := v) (L := [some (.ref r0), some (.ref r1), none, none, none, none]) rfl ?_
  unfold F_X6_readKnowing at h
  refine t_l fX6_readKnowing_0 rfl rfl rfl rfl ?_
  obtain ⟨V1, v2, e3, h⟩ := bd_some h
  refine kcX6_take fX6_readKnowing_1 (hr0).1 rfl (q_X6_take (hr0) e3) (by decide) ?_
  refine t_l fX6_readKnowing_4 rfl rfl rfl rfl ?_
  refine t_l fX6_readKnowing_5 rfl rfl rfl rfl ?_
  refine k9_gr fX6_readKnowing_6 (hr1).1 kg_1_0 (s1_0r hr1) ?_
  obtain ⟨V4, v5, e6, h⟩ := bd_some h
  refine kcX6_takeKnown fX6_readKnowing_9 (hr0).1 rfl rfl (q_X6_takeKnown (hr0) (s1_0s hr1) e6) (by decide) ?_
  refine t_l fX6_readKnowing_12 rfl rfl rfl rfl ?_
  refine t_l fX6_readKnowing_13 rfl rfl rfl rfl ?_
  obtain ⟨V7, v8, e9, h⟩ := bd_some h
  refine kcX6_here fX6_readKnowing_14 (hr0).1 rfl (q_X6_here (hr0) e9) (by decide) ?_
  refine t_l fX6_readKnowing_17 rfl rfl rfl rfl ?_
  refine t_l fX6_readKnowing_18 rfl rfl rfl rfl ?_
  refine t_l fX6_readKnowing_19 rfl rfl rfl rfl ?_
  refine k9_gr fX6_readKnowing_20 (hr1).1 kg_1_0 (s1_0r hr1) ?_
  obtain ⟨V10, v11, e12, h⟩ := bd_some h
  refine kcX6_takeKnown fX6_readKnowing_23 (hr0).1 rfl rfl (q_X6_takeKnown (hr0) (s1_0s hr1) e12) (by decide) ?_
  refine t_l fX6_readKnowing_26 rfl rfl rfl rfl ?_
  refine t_l fX6_readKnowing_28 rfl rfl rfl rfl ?_
  refine t_l fX6_readKnowing_30 rfl rfl rfl rfl ?_
  obtain ⟨g14, h⟩ := gd_some h
  obtain ⟨g15, h⟩ := gd_some h
  refine k9_ic_ne fX6_readKnowing_31 rfl g14 g15 (fun c13 => ?_) (fun c13 => ?_)
  · replace h := ite_f (c13) h
    exact tj_X6_readKnowing_J40 hr0 hr1   h
  · replace h := ite_t (Classical.not_not.mp c13) h
    refine t_l fX6_readKnowing_34 rfl rfl rfl rfl ?_
    refine t_s fX6_readKnowing_35 rfl rfl rfl ?_
    refine t_l fX6_readKnowing_36 rfl rfl rfl rfl ?_
    obtain ⟨V27, v28, e29, h⟩ := bd_some h
    refine kcX6_fail fX6_readKnowing_37 (hr0).1 rfl (q_X6_fail (hr0) e29) (by decide) ?_
    exact tj_X6_readKnowing_J40 hr0 hr1   h

theorem q_X6_comparison {X : mX} {n z : Nat} {G : mG} {r0 : Nat} (hr0 : is6 G r0) {V V' : mV} {v : Int} (h : F_X6_comparison G r0 V = some (V', v)) : Rn X (2) 89 [.ref r0] n z G V n z G V' (some (.int (iI v))) := by
  refine qi_toR (v := v) (L := [some (.ref r0)]) rfl ?_
  unfold F_X6_comparison at h
  refine t_l fX6_comparison_0 rfl rfl rfl rfl ?_
  refine t_s fX6_comparison_1 rfl rfl rfl ?_
  obtain ⟨V1, v2, e3, h⟩ := bd_some h
  refine kcX6_isSign fX6_comparison_3 (hr0).1 rfl (q_X6_isSign (hr0) e3) (by decide) ?_
  obtain ⟨g5, h⟩ := gd_some h
  refine k9_if_eq fX6_comparison_6 rfl g5 (fun c4 => ?_) (fun c4 => ?_)
  · replace h := ite_t (c4) h
    refine t_l fX6_comparison_12 rfl rfl rfl rfl ?_
    refine t_s fX6_comparison_13 rfl rfl rfl ?_
    obtain ⟨V6, v7, e8, h⟩ := bd_some h
    refine kcX6_isSign fX6_comparison_15 (hr0).1 rfl (q_X6_isSign (hr0) e8) (by decide) ?_
    obtain ⟨g10, h⟩ := gd_some h
    refine k9_if_eq fX6_comparison_18 rfl g10 (fun c9 => ?_) (fun c9 => ?_)
    · replace h := ite_t (c9) h
      refine t_l fX6_comparison_24 rfl rfl rfl rfl ?_
      refine t_s fX6_comparison_25 rfl rfl rfl ?_
      obtain ⟨V11, v12, e13, h⟩ := bd_some h
      refine kcX6_isSign fX6_comparison_27 (hr0).1 rfl (q_X6_isSign (hr0) e13) (by decide) ?_
      obtain ⟨g15, h⟩ := gd_some h
      refine k9_if_eq fX6_comparison_30 rfl g15 (fun c14 => ?_) (fun c14 => ?_)
      · replace h := ite_t (c14) h
        refine t_s fX6_comparison_38 rfl rfl rfl ?_
        refine t_ret fX6_comparison_39 rX6_comparison ?_
        exact qf_i h
      · replace h := ite_f (c14) h
        refine t_s fX6_comparison_33 rfl rfl rfl ?_
        refine k9_goto fX6_comparison_35 rfl ?_
        refine t_ret fX6_comparison_39 rX6_comparison ?_
        exact qf_i h
    · replace h := ite_f (c9) h
      refine t_s fX6_comparison_21 rfl rfl rfl ?_
      refine t_ret fX6_comparison_23 rX6_comparison ?_
      exact qf_i h
  · replace h := ite_f (c4) h
    refine t_s fX6_comparison_9 rfl rfl rfl ?_
    refine t_ret fX6_comparison_11 rX6_comparison ?_
    exact qf_i h

theorem tb_X7_count_4 {X : mX} {n z : Nat} {G : mG} {r0 : Nat} (hr0 : is7 G r0) {x1 x2 x3 : Int} {V V' : mV} {q : Nat × Int × Int} {Q : Nat → Nat → mG → mV → Option Value → Prop} (h0 : q.1 = 0 → T X (1) 104 4 [some (.ref r0), some (.int (iI x1)), some (.int (iI q.2.1)), some (.int (iI q.2.2))] [] n z G V' Q) (h1 : q.1 = 1 → T X (1) 104 30 [some (.ref r0), some (.int (iI x1)), some (.int (iI q.2.1)), some (.int (iI q.2.2))] [] n z G V' Q) (h : B_X7_count_4 G r0 x1 x2 x3 V = some (V', q)) : T X (1) 104 4 [some (.ref r0), some (.int (iI x1)), some (.int (iI x2)), some (.int (iI x3))] [] n z G V Q := by
  unfold B_X7_count_4 at h
  refine t_l fX7_count_4 rfl rfl rfl rfl ?_
  refine t_l fX7_count_5 rfl rfl rfl rfl ?_
  refine k9_gi fX7_count_6 (hr0).1 kg_7_1 ?_
  obtain ⟨g2, h⟩ := gd_some h
  obtain ⟨g3, h⟩ := gd_some h
  refine k9_ic_ge fX7_count_9 rfl g2 g3 (fun c1 => ?_) (fun c1 => ?_)
  · replace h := ite_t (c1) h
    cases h
    exact h1 rfl
  · replace h := ite_f (c1) h
    refine t_l fX7_count_12 rfl rfl rfl rfl ?_
    refine t_l fX7_count_13 rfl rfl rfl rfl ?_
    obtain ⟨V4, v5, e6, h⟩ := bd_some h
    refine kcX7_get fX7_count_14 (hr0).1 rfl (q_X7_get (hr0) e6) (by decide) ?_
    refine t_l fX7_count_17 rfl rfl rfl rfl ?_
    obtain ⟨g8, h⟩ := gd_some h
    obtain ⟨g9, h⟩ := gd_some h
    refine k9_ic_ne fX7_count_18 rfl g8 g9 (fun c7 => ?_) (fun c7 => ?_)
    · replace h := ite_f (c7) h
      replace h := lt_some h
      refine k9_iinc fX7_count_24 rfl (Nat.le_of_ble_eq_true rfl) rfl ?_
      refine k9_goto fX7_count_27 rfl ?_
      cases h
      exact h0 rfl
    · replace h := ite_t (Classical.not_not.mp c7) h
      replace h := lt_some h
      refine k9_iinc fX7_count_21 rfl (Nat.le_of_ble_eq_true rfl) rfl ?_
      replace h := lt_some h
      refine k9_iinc fX7_count_24 rfl (Nat.le_of_ble_eq_true rfl) rfl ?_
      refine k9_goto fX7_count_27 rfl ?_
      cases h
      exact h0 rfl

theorem tl_X7_count_4 {X : mX} {n z : Nat} {G : mG} {r0 : Nat} (hr0 : is7 G r0) {x1 x2 x3 : Int} {V V' : mV} {fu : Nat} {q : Nat × Int × Int} {Q : Nat → Nat → mG → mV → Option Value → Prop} (k1 : q.1 = 1 → T X (1) 104 30 [some (.ref r0), some (.int (iI x1)), some (.int (iI q.2.1)), some (.int (iI q.2.2))] [] n z G V' Q) (h : lp (fun (s : Int × Int) V => B_X7_count_4 G r0 x1 s.1 s.2 V) fu (x2, x3) V = some (V', q)) : T X (1) 104 4 [some (.ref r0), some (.int (iI x1)), some (.int (iI x2)), some (.int (iI x3))] [] n z G V Q :=
  lp_go (P0 := fun s V => T X (1) 104 4 [some (.ref r0), some (.int (iI x1)), some (.int (iI s.1)), some (.int (iI s.2))] [] n z G V Q) (PE := fun t s V => (t = 1 → T X (1) 104 30 [some (.ref r0), some (.int (iI x1)), some (.int (iI s.1)), some (.int (iI s.2))] [] n z G V Q)) (fun s V V' q hb h0 h1 => tb_X7_count_4 hr0  h0 (fun e => (h1 (by omega)) e) hb) fu (x2, x3) V V' q h k1

theorem q_X7_count {X : mX} {n z : Nat} {G : mG} {r0 : Nat} (hr0 : is7 G r0) {x1 : Int} {V V' : mV} {v : Int} (h : F_X7_count G r0 x1 V = some (V', v)) : Rn X (1) 104 [.ref r0, .int (iI x1)] n z G V n z G V' (some (.int (iI v))) := by
  refine qi_toR (v := v) (L := [some (.ref r0), some (.int (iI x1)), none, none]) rfl ?_
  unfold F_X7_count at h
  refine t_s fX7_count_0 rfl rfl rfl ?_
  refine t_l fX7_count_1 rfl rfl rfl rfl ?_
  refine t_s fX7_count_2 rfl rfl rfl ?_
  refine t_l fX7_count_3 rfl rfl rfl rfl ?_
  obtain ⟨V13, u14, e15, h⟩ := bd_some h
  refine tl_X7_count_4 hr0  (fun e16 => ?_) e15
  refine t_l fX7_count_30 rfl rfl rfl rfl ?_
  refine t_ret fX7_count_31 rX7_count ?_
  exact qf_i h

theorem q_X8_init {X : mX} {n z : Nat} {G : mG} {r0 : Nat} (hr0 : is8 G r0) {V V' : mV} {v : Int} (h : F_X8_init G r0 V = some (V', v)) : Rn X (0) 105 [.ref r0] n z G V n z G V' none := by
  refine qv_toR (v := v) (L := [some (.ref r0)]) rfl ?_
  unfold F_X8_init at h
  refine t_l fX8_init_0 rfl rfl rfl rfl ?_
  refine t_s fX8_init_1 rfl rfl rfl ?_
  refine t_l fX8_init_4 rfl rfl rfl rfl ?_
  refine t_s fX8_init_5 rfl rfl rfl ?_
  refine k9_pi fX8_init_6 (hr0).1 kp_8_1 ?_
  replace h := lt_some h
  refine t_l fX8_init_9 rfl rfl rfl rfl ?_
  refine t_s fX8_init_10 rfl rfl rfl ?_
  refine k9_pi fX8_init_11 (hr0).1 kp_8_2 ?_
  replace h := lt_some h
  refine t_ret fX8_init_14 rX8_init ?_
  exact qf_v h

theorem tj_X8_count_J86 {X : mX} {n z : Nat} {G : mG} {r0 : Nat} (hr0 : is8 G r0) {x1 x2 s1 : Int} {V V' : mV} {v : Int} (h : F_X8_count_J86 G r0 x1 x2 s1 V = some (V', v)) : T X (1) 106 86 [some (.ref r0), some (.int (iI x1)), some (.int (iI x2))] [.int (iI s1), .ref r0] n z G V (qv n z G V' v) := by
  unfold F_X8_count_J86 at h
  refine k9_pi fX8_count_86 (hr0).1 kp_8_6 ?_
  replace h := lt_some h
  refine t_l fX8_count_89 rfl rfl rfl rfl ?_
  refine t_s fX8_count_90 rfl rfl rfl ?_
  refine k9_gi fX8_count_91 (hr0).1 kg_8_0 ?_
  refine t_s fX8_count_94 rfl rfl rfl ?_
  refine k9_iadd fX8_count_95 ?_
  refine k9_pi fX8_count_96 (hr0).1 kp_8_0 ?_
  replace h := lt_some h
  refine t_ret fX8_count_99 rX8_count ?_
  exact qf_v h

theorem tj_X8_count_J63 {X : mX} {n z : Nat} {G : mG} {r0 : Nat} (hr0 : is8 G r0) {x1 x2 s1 : Int} {V V' : mV} {v : Int} (h : F_X8_count_J63 G r0 x1 x2 s1 V = some (V', v)) : T X (1) 106 63 [some (.ref r0), some (.int (iI x1)), some (.int (iI x2))] [.int (iI s1), .ref r0] n z G V (qv n z G V' v) := by
  unfold F_X8_count_J63 at h
  refine k9_pi fX8_count_63 (hr0).1 kp_8_5 ?_
  replace h := lt_some h
  refine t_l fX8_count_66 rfl rfl rfl rfl ?_
  refine t_l fX8_count_67 rfl rfl rfl rfl ?_
  refine k9_gi fX8_count_68 (hr0).1 kg_8_0 ?_
  obtain ⟨g10, h⟩ := gd_some h
  refine k9_if_ne fX8_count_71 rfl g10 (fun c9 => ?_) (fun c9 => ?_)
  · replace h := ite_f (c9) h
    refine t_l fX8_count_78 rfl rfl rfl rfl ?_
    refine k9_gi fX8_count_79 (hr0).1 kg_8_6 ?_
    refine t_l fX8_count_82 rfl rfl rfl rfl ?_
    obtain ⟨g11, h⟩ := gd_some h
    obtain ⟨g12, h⟩ := gd_some h
    refine kcM_min fX8_count_83 rfl (eM_min g11 g12) (by decide) ?_
    exact tj_X8_count_J86 hr0   h
  · replace h := ite_t (Classical.not_not.mp c9) h
    refine t_l fX8_count_74 rfl rfl rfl rfl ?_
    refine k9_goto fX8_count_75 rfl ?_
    exact tj_X8_count_J86 hr0   h

theorem tj_X8_count_J32 {X : mX} {n z : Nat} {G : mG} {r0 : Nat} (hr0 : is8 G r0) {x1 x2 : Int} {V V' : mV} {v : Int} (h : F_X8_count_J32 G r0 x1 x2 V = some (V', v)) : T X (1) 106 32 [some (.ref r0), some (.int (iI x1)), some (.int (iI x2))] [] n z G V (qv n z G V' v) := by
  unfold F_X8_count_J32 at h
  refine t_l fX8_count_32 rfl rfl rfl rfl ?_
  refine t_s fX8_count_33 rfl rfl rfl ?_
  refine k9_gj fX8_count_34 (hr0).1 kg_8_4 ?_
  refine t_l fX8_count_37 rfl rfl rfl rfl ?_
  obtain ⟨g3, h⟩ := gd_some h
  refine k9_i2l fX8_count_38 g3 ?_
  refine k9_ladd fX8_count_39 ?_
  refine k9_pj fX8_count_40 (hr0).1 kp_8_4 ?_
  replace h := lt_some h
  refine t_l fX8_count_43 rfl rfl rfl rfl ?_
  refine t_l fX8_count_44 rfl rfl rfl rfl ?_
  refine k9_gi fX8_count_45 (hr0).1 kg_8_0 ?_
  obtain ⟨g6, h⟩ := gd_some h
  refine k9_if_ne fX8_count_48 rfl g6 (fun c5 => ?_) (fun c5 => ?_)
  · replace h := ite_f (c5) h
    refine t_l fX8_count_55 rfl rfl rfl rfl ?_
    refine k9_gi fX8_count_56 (hr0).1 kg_8_5 ?_
    refine t_l fX8_count_59 rfl rfl rfl rfl ?_
    obtain ⟨g7, h⟩ := gd_some h
    refine kcM_max fX8_count_60 rfl (eM_max g7 g3) (by decide) ?_
    exact tj_X8_count_J63 hr0   h
  · replace h := ite_t (Classical.not_not.mp c5) h
    refine t_l fX8_count_51 rfl rfl rfl rfl ?_
    refine k9_goto fX8_count_52 rfl ?_
    exact tj_X8_count_J63 hr0   h

theorem tj_X8_count_J17 {X : mX} {n z : Nat} {G : mG} {r0 : Nat} (hr0 : is8 G r0) {x1 x2 : Int} {V V' : mV} {v : Int} (h : F_X8_count_J17 G r0 x1 x2 V = some (V', v)) : T X (1) 106 17 [some (.ref r0), some (.int (iI x1)), some (.int (iI x2))] [] n z G V (qv n z G V' v) := by
  unfold F_X8_count_J17 at h
  refine t_l fX8_count_17 rfl rfl rfl rfl ?_
  refine t_l fX8_count_18 rfl rfl rfl rfl ?_
  refine k9_pi fX8_count_19 (hr0).1 kp_8_2 ?_
  replace h := lt_some h
  refine t_l fX8_count_22 rfl rfl rfl rfl ?_
  refine t_s fX8_count_23 rfl rfl rfl ?_
  refine k9_gi fX8_count_24 (hr0).1 kg_8_3 ?_
  refine t_s fX8_count_27 rfl rfl rfl ?_
  refine k9_iadd fX8_count_28 ?_
  refine k9_pi fX8_count_29 (hr0).1 kp_8_3 ?_
  replace h := lt_some h
  exact tj_X8_count_J32 hr0   h

theorem q_X8_count {X : mX} {n z : Nat} {G : mG} {r0 : Nat} (hr0 : is8 G r0) {x1 x2 : Int} {V V' : mV} {v : Int} (h : F_X8_count G r0 x1 x2 V = some (V', v)) : Rn X (1) 106 [.ref r0, .int (iI x1), .int (iI x2)] n z G V n z G V' none := by
  refine qv_toR (v := v) (L := [some (.ref r0), some (.int (iI x1)), some (.int (iI x2))]) rfl ?_
  unfold F_X8_count at h
  refine t_l fX8_count_0 rfl rfl rfl rfl ?_
  obtain ⟨g2, h⟩ := gd_some h
  refine k9_if_eq fX8_count_1 rfl g2 (fun c1 => ?_) (fun c1 => ?_)
  · replace h := ite_t (c1) h
    exact tj_X8_count_J32 hr0   h
  · replace h := ite_f (c1) h
    refine t_l fX8_count_4 rfl rfl rfl rfl ?_
    refine k9_gi fX8_count_5 (hr0).1 kg_8_1 ?_
    refine t_s fX8_count_8 rfl rfl rfl ?_
    obtain ⟨g16, h⟩ := gd_some h
    refine k9_ic_ne fX8_count_9 rfl g16 ⟨by decide, by decide⟩ (fun c15 => ?_) (fun c15 => ?_)
    · replace h := ite_f (c15) h
      exact tj_X8_count_J17 hr0   h
    · replace h := ite_t (Classical.not_not.mp c15) h
      refine t_l fX8_count_12 rfl rfl rfl rfl ?_
      refine t_l fX8_count_13 rfl rfl rfl rfl ?_
      refine k9_pi fX8_count_14 (hr0).1 kp_8_1 ?_
      replace h := lt_some h
      exact tj_X8_count_J17 hr0   h

theorem q_X8_answer {X : mX} {n z : Nat} {G : mG} {r0 : Nat} (hr0 : is8 G r0) {x1 : Int} {V V' : mV} {v : Int} (h : F_X8_answer G r0 x1 V = some (V', v)) : Rn X (0) 107 [.ref r0, .int (iI x1)] n z G V n z G V' (some (.long (lI v))) := by
  refine qj_toR (v := v) (L := [some (.ref r0), some (.int (iI x1))]) rfl ?_
  unfold F_X8_answer at h
  refine t_l fX8_answer_0 rfl rfl rfl rfl ?_
  obtain ⟨g1, h⟩ := gd_some h
  by_cases c2 : x1 = 24
  · replace h := ite_t c2 h
    refine k9_sw 40 fX8_answer_1 g1 (by rw [c2]; rfl) (by rw [c2]; exact Or.inr (Or.inr rfl)) ?_
    refine t_l fX8_answer_40 rfl rfl rfl rfl ?_
    refine k9_gi fX8_answer_41 (hr0).1 kg_8_1 ?_
    obtain ⟨g3, h⟩ := gd_some h
    refine k9_i2l fX8_answer_44 g3 ?_
    refine t_ret fX8_answer_45 rX8_answer ?_
    exact qf_j h
  replace h := ite_f c2 h
  by_cases c4 : x1 = 25
  · replace h := ite_t c4 h
    refine k9_sw 46 fX8_answer_1 g1 (by rw [c4]; rfl) (by rw [c4]; exact Or.inr (Or.inr rfl)) ?_
    refine t_l fX8_answer_46 rfl rfl rfl rfl ?_
    refine k9_gi fX8_answer_47 (hr0).1 kg_8_2 ?_
    obtain ⟨g5, h⟩ := gd_some h
    refine k9_i2l fX8_answer_50 g5 ?_
    refine t_ret fX8_answer_51 rX8_answer ?_
    exact qf_j h
  replace h := ite_f c4 h
  by_cases c6 : x1 = 26
  · replace h := ite_t c6 h
    refine k9_sw 52 fX8_answer_1 g1 (by rw [c6]; rfl) (by rw [c6]; exact Or.inr (Or.inr rfl)) ?_
    refine t_l fX8_answer_52 rfl rfl rfl rfl ?_
    refine k9_gi fX8_answer_53 (hr0).1 kg_8_3 ?_
    obtain ⟨g7, h⟩ := gd_some h
    refine k9_i2l fX8_answer_56 g7 ?_
    refine t_ret fX8_answer_57 rX8_answer ?_
    exact qf_j h
  replace h := ite_f c6 h
  by_cases c8 : x1 = 27
  · replace h := ite_t c8 h
    refine k9_sw 58 fX8_answer_1 g1 (by rw [c8]; rfl) (by rw [c8]; exact Or.inr (Or.inr rfl)) ?_
    refine t_l fX8_answer_58 rfl rfl rfl rfl ?_
    refine k9_gj fX8_answer_59 (hr0).1 kg_8_4 ?_
    refine t_ret fX8_answer_62 rX8_answer ?_
    exact qf_j h
  replace h := ite_f c8 h
  by_cases c9 : x1 = 28
  · replace h := ite_t c9 h
    refine k9_sw 63 fX8_answer_1 g1 (by rw [c9]; rfl) (by rw [c9]; exact Or.inr (Or.inr rfl)) ?_
    refine t_l fX8_answer_63 rfl rfl rfl rfl ?_
    refine k9_gi fX8_answer_64 (hr0).1 kg_8_5 ?_
    obtain ⟨g10, h⟩ := gd_some h
    refine k9_i2l fX8_answer_67 g10 ?_
    refine t_ret fX8_answer_68 rX8_answer ?_
    exact qf_j h
  replace h := ite_f c9 h
  by_cases c11 : x1 = 29
  · replace h := ite_t c11 h
    refine k9_sw 69 fX8_answer_1 g1 (by rw [c11]; rfl) (by rw [c11]; exact Or.inr (Or.inr rfl)) ?_
    refine t_l fX8_answer_69 rfl rfl rfl rfl ?_
    refine k9_gi fX8_answer_70 (hr0).1 kg_8_6 ?_
    obtain ⟨g12, h⟩ := gd_some h
    refine k9_i2l fX8_answer_73 g12 ?_
    refine t_ret fX8_answer_74 rX8_answer ?_
    exact qf_j h
  replace h := ite_f c11 h
  have hd1 : (x1 < 24 ∨ 29 < x1) := by omega
  refine k9_sw 75 fX8_answer_1 g1 (by rw [if_pos hd1]; rfl) (by omega) ?_
  refine t_s fX8_answer_75 rfl rfl rfl ?_
  refine t_ret fX8_answer_78 rX8_answer ?_
  exact qf_j h

theorem tb_X9_feedNumber_3 {X : mX} {n z : Nat} {G : mG} {r0 : Nat} (hr0 : is9 G r0) {x1 x2 : Int} {V V' : mV} {q : Nat × Int} {Q : Nat → Nat → mG → mV → Option Value → Prop} (h0 : q.1 = 0 → T X (1) 146 3 [some (.ref r0), some (.int (iI x1)), some (.int (iI q.2))] [] n z G V' Q) (h1 : q.1 = 1 → T X (1) 146 27 [some (.ref r0), some (.int (iI x1)), some (.int (iI q.2))] [] n z G V' Q) (h : B_X9_feedNumber_3 G r0 x1 x2 V = some (V', q)) : T X (1) 146 3 [some (.ref r0), some (.int (iI x1)), some (.int (iI x2))] [] n z G V Q := by
  unfold B_X9_feedNumber_3 at h
  refine t_l fX9_feedNumber_3 rfl rfl rfl rfl ?_
  obtain ⟨g2, h⟩ := gd_some h
  refine k9_if_lt fX9_feedNumber_4 rfl g2 (fun c1 => ?_) (fun c1 => ?_)
  · replace h := ite_t (c1) h
    cases h
    exact h1 rfl
  · replace h := ite_f (c1) h
    refine t_l fX9_feedNumber_7 rfl rfl rfl rfl ?_
    refine k9_gr fX9_feedNumber_8 (hr0).1 kg_9_0 (s9_0r hr0) ?_
    refine t_l fX9_feedNumber_11 rfl rfl rfl rfl ?_
    refine t_l fX9_feedNumber_12 rfl rfl rfl rfl ?_
    obtain ⟨g3, h⟩ := gd_some h
    obtain ⟨g4, h⟩ := gd_some h
    refine k8_ishr fX9_feedNumber_13 g3 g4 ?_
    refine t_s fX9_feedNumber_14 rfl rfl rfl ?_
    refine k8_iand256 fX9_feedNumber_17 ?_
    obtain ⟨V5, v6, e7, h⟩ := bd_some h
    refine kcX7_add fX9_feedNumber_18 (s9_0s hr0).1 rfl (q_X7_add (s9_0s hr0) e7) (by decide) ?_
    replace h := lt_some h
    refine k9_iinc fX9_feedNumber_21 rfl (Nat.le_of_ble_eq_true rfl) rfl ?_
    refine k9_goto fX9_feedNumber_24 rfl ?_
    cases h
    exact h0 rfl

theorem tl_X9_feedNumber_3 {X : mX} {n z : Nat} {G : mG} {r0 : Nat} (hr0 : is9 G r0) {x1 x2 : Int} {V V' : mV} {fu : Nat} {q : Nat × Int} {Q : Nat → Nat → mG → mV → Option Value → Prop} (k1 : q.1 = 1 → T X (1) 146 27 [some (.ref r0), some (.int (iI x1)), some (.int (iI q.2))] [] n z G V' Q) (h : lp (fun (s : Int) V => B_X9_feedNumber_3 G r0 x1 s V) fu x2 V = some (V', q)) : T X (1) 146 3 [some (.ref r0), some (.int (iI x1)), some (.int (iI x2))] [] n z G V Q :=
  lp_go (P0 := fun s V => T X (1) 146 3 [some (.ref r0), some (.int (iI x1)), some (.int (iI s))] [] n z G V Q) (PE := fun t s V => (t = 1 → T X (1) 146 27 [some (.ref r0), some (.int (iI x1)), some (.int (iI s))] [] n z G V Q)) (fun s V V' q hb h0 h1 => tb_X9_feedNumber_3 hr0  h0 (fun e => (h1 (by omega)) e) hb) fu x2 V V' q h k1

theorem q_X9_feedNumber {X : mX} {n z : Nat} {G : mG} {r0 : Nat} (hr0 : is9 G r0) {x1 : Int} {V V' : mV} {v : Int} (h : F_X9_feedNumber G r0 x1 V = some (V', v)) : Rn X (1) 146 [.ref r0, .int (iI x1)] n z G V n z G V' none := by
  refine qv_toR (v := v) (L := [some (.ref r0), some (.int (iI x1)), none]) rfl ?_
  unfold F_X9_feedNumber at h
  refine t_s fX9_feedNumber_0 rfl rfl rfl ?_
  refine t_l fX9_feedNumber_2 rfl rfl rfl rfl ?_
  obtain ⟨V9, u10, e11, h⟩ := bd_some h
  refine tl_X9_feedNumber_3 hr0  (fun e12 => ?_) e11
  refine t_ret fX9_feedNumber_27 rX9_feedNumber ?_
  exact qf_v h

theorem q_X9_refuse {X : mX} {n z : Nat} {G : mG} {r0 : Nat} (hr0 : is9 G r0) {x1 : Int} {V V' : mV} {v : Int} (h : F_X9_refuse G r0 x1 V = some (V', v)) : Rn X (1) 141 [.ref r0, .int (iI x1)] n z G V n z G V' (some (.int (iI v))) := by
  refine qi_toR (v := v) (L := [some (.ref r0), some (.int (iI x1))]) rfl ?_
  unfold F_X9_refuse at h
  refine t_l fX9_refuse_0 rfl rfl rfl rfl ?_
  refine k9_gr fX9_refuse_1 (hr0).1 kg_9_2 (s9_2r hr0) ?_
  refine t_l fX9_refuse_4 rfl rfl rfl rfl ?_
  refine t_l fX9_refuse_5 rfl rfl rfl rfl ?_
  refine k9_gr fX9_refuse_6 (hr0).1 kg_9_2 (s9_2r hr0) ?_
  refine t_l fX9_refuse_9 rfl rfl rfl rfl ?_
  obtain ⟨V1, v2, e3, h⟩ := bd_some h
  refine kcX7_get fX9_refuse_10 (s9_2s hr0).1 rfl (q_X7_get (s9_2s hr0) e3) (by decide) ?_
  refine t_s fX9_refuse_13 rfl rfl rfl ?_
  refine k9_iadd fX9_refuse_14 ?_
  obtain ⟨V4, v5, e6, h⟩ := bd_some h
  refine kcX7_put fX9_refuse_15 (s9_2s hr0).1 rfl (q_X7_put (s9_2s hr0) e6) (by decide) ?_
  refine t_s fX9_refuse_18 rfl rfl rfl ?_
  refine t_ret fX9_refuse_19 rX9_refuse ?_
  exact qf_i h

theorem q_X9_feed {X : mX} {n z : Nat} {G : mG} {r0 : Nat} (hr0 : is9 G r0) {x1 x2 x3 x4 x5 : Int} {V V' : mV} {v : Int} (h : F_X9_feed G r0 x1 x2 x3 x4 x5 V = some (V', v)) : Rn X (2) 109 [.ref r0, .int (iI x1), .int (iI x2), .int (iI x3), .int (iI x4), .int (iI x5)] n z G V n z G V' (some (.int (iI v))) := by
  refine qi_toR (v := v) (L := [some (.ref r0), some (.int (iI x1)), some (.int (iI x2)), some (.int (iI x3)), some (.int (iI x4)), some (.int (iI x5))]) rfl ?_
  unfold F_X9_feed at h
  refine t_l fX9_feed_0 rfl rfl rfl rfl ?_
  refine k9_gr fX9_feed_1 (hr0).1 kg_9_0 (s9_0r hr0) ?_
  obtain ⟨V1, v2, e3, h⟩ := bd_some h
  refine kcX7_size fX9_feed_4 (s9_0s hr0).1 rfl (q_X7_size (s9_0s hr0) e3) (by decide) ?_
  refine t_s fX9_feed_7 rfl rfl rfl ?_
  refine k9_iadd fX9_feed_9 ?_
  refine t_s fX9_feed_10 rfl rfl rfl ?_
  obtain ⟨g5, h⟩ := gd_some h
  refine k9_ic_le fX9_feed_13 rfl g5 ⟨by decide, by decide⟩ (fun c4 => ?_) (fun c4 => ?_)
  · replace h := ite_t (c4) h
    refine t_l fX9_feed_22 rfl rfl rfl rfl ?_
    refine t_l fX9_feed_23 rfl rfl rfl rfl ?_
    obtain ⟨V6, v7, e8, h⟩ := bd_some h
    refine kcX9_feedNumber fX9_feed_24 (hr0).1 rfl (q_X9_feedNumber (hr0) e8) (by decide) ?_
    refine t_l fX9_feed_27 rfl rfl rfl rfl ?_
    refine t_l fX9_feed_28 rfl rfl rfl rfl ?_
    obtain ⟨V9, v10, e11, h⟩ := bd_some h
    refine kcX9_feedNumber fX9_feed_29 (hr0).1 rfl (q_X9_feedNumber (hr0) e11) (by decide) ?_
    refine t_l fX9_feed_32 rfl rfl rfl rfl ?_
    refine t_l fX9_feed_33 rfl rfl rfl rfl ?_
    obtain ⟨V12, v13, e14, h⟩ := bd_some h
    refine kcX9_feedNumber fX9_feed_34 (hr0).1 rfl (q_X9_feedNumber (hr0) e14) (by decide) ?_
    refine t_l fX9_feed_37 rfl rfl rfl rfl ?_
    refine t_l fX9_feed_38 rfl rfl rfl rfl ?_
    obtain ⟨V15, v16, e17, h⟩ := bd_some h
    refine kcX9_feedNumber fX9_feed_40 (hr0).1 rfl (q_X9_feedNumber (hr0) e17) (by decide) ?_
    refine t_l fX9_feed_43 rfl rfl rfl rfl ?_
    refine t_l fX9_feed_44 rfl rfl rfl rfl ?_
    obtain ⟨V18, v19, e20, h⟩ := bd_some h
    refine kcX9_feedNumber fX9_feed_46 (hr0).1 rfl (q_X9_feedNumber (hr0) e20) (by decide) ?_
    refine t_l fX9_feed_49 rfl rfl rfl rfl ?_
    refine k9_gr fX9_feed_50 (hr0).1 kg_9_0 (s9_0r hr0) ?_
    obtain ⟨V21, v22, e23, h⟩ := bd_some h
    refine kcX7_size fX9_feed_53 (s9_0s hr0).1 rfl (q_X7_size (s9_0s hr0) e23) (by decide) ?_
    refine t_ret fX9_feed_56 rX9_feed ?_
    exact qf_i h
  · replace h := ite_f (c4) h
    refine t_l fX9_feed_16 rfl rfl rfl rfl ?_
    refine t_s fX9_feed_17 rfl rfl rfl ?_
    obtain ⟨V24, v25, e26, h⟩ := bd_some h
    refine kcX9_refuse fX9_feed_18 (hr0).1 rfl (q_X9_refuse (hr0) e26) (by decide) ?_
    refine t_ret fX9_feed_21 rX9_feed ?_
    exact qf_i h

theorem tj_X9_end_J15 {X : mX} {n z : Nat} {G : mG} {r0 : Nat} (hr0 : is9 G r0) {x1 : Int} {V V' : mV} {v : Int} (h : F_X9_end_J15 G r0 x1 V = some (V', v)) : T X (2) 110 15 [some (.ref r0), some (.int (iI x1))] [] n z G V (qi n z G V' v) := by
  unfold F_X9_end_J15 at h
  refine t_l fX9_end_15 rfl rfl rfl rfl ?_
  refine t_s fX9_end_16 rfl rfl rfl ?_
  obtain ⟨V3, v4, e5, h⟩ := bd_some h
  refine kcX9_refuse fX9_end_17 (hr0).1 rfl (q_X9_refuse (hr0) e5) (by decide) ?_
  refine t_s fX9_end_20 rfl rfl rfl ?_
  refine t_s fX9_end_21 rfl rfl rfl ?_
  refine t_ret fX9_end_22 (rX9_end _ (by decide)) ?_
  exact qf_i h

theorem q_X9_end {X : mX} {n z : Nat} {G : mG} {r0 : Nat} (hr0 : is9 G r0) {x1 : Int} {V V' : mV} {v : Int} (h : F_X9_end G r0 x1 V = some (V', v)) : Rn X (2) 110 [.ref r0, .int (iI x1)] n z G V n z G V' (some (.int (iI v))) := by
  refine qi_toR (v := v) (L := [some (.ref r0), some (.int (iI x1))]) rfl ?_
  unfold F_X9_end at h
  refine t_l fX9_end_0 rfl rfl rfl rfl ?_
  obtain ⟨g2, h⟩ := gd_some h
  refine k9_if_lt fX9_end_1 rfl g2 (fun c1 => ?_) (fun c1 => ?_)
  · replace h := ite_t (c1) h
    exact tj_X9_end_J15 hr0   h
  · replace h := ite_f (c1) h
    refine t_l fX9_end_4 rfl rfl rfl rfl ?_
    refine t_l fX9_end_5 rfl rfl rfl rfl ?_
    refine k9_gr fX9_end_6 (hr0).1 kg_9_0 (s9_0r hr0) ?_
    obtain ⟨V6, v7, e8, h⟩ := bd_some h
    refine kcX7_size fX9_end_9 (s9_0s hr0).1 rfl (q_X7_size (s9_0s hr0) e8) (by decide) ?_
    obtain ⟨g10, h⟩ := gd_some h
    refine k9_ic_le fX9_end_12 rfl g2 g10 (fun c9 => ?_) (fun c9 => ?_)
    · replace h := ite_t (c9) h
      refine t_l fX9_end_23 rfl rfl rfl rfl ?_
      refine k9_gr fX9_end_24 (hr0).1 kg_9_0 (s9_0r hr0) ?_
      refine t_l fX9_end_27 rfl rfl rfl rfl ?_
      obtain ⟨V11, v12, e13, h⟩ := bd_some h
      refine kcX7_cut fX9_end_28 (s9_0s hr0).1 rfl (q_X7_cut (s9_0s hr0) e13) (by decide) ?_
      refine t_s fX9_end_31 rfl rfl rfl ?_
      refine t_ret fX9_end_32 (rX9_end _ (by decide)) ?_
      exact qf_i h
    · replace h := ite_f (c9) h
      exact tj_X9_end_J15 hr0   h

theorem q_X9_fault {X : mX} {n z : Nat} {G : mG} {r0 : Nat} (hr0 : is9 G r0) {x1 : Int} {V V' : mV} {v : Int} (h : F_X9_fault G r0 x1 V = some (V', v)) : Rn X (0) 112 [.ref r0, .int (iI x1)] n z G V n z G V' (some (.int (iI v))) := by
  refine qi_toR (v := v) (L := [some (.ref r0), some (.int (iI x1))]) rfl ?_
  unfold F_X9_fault at h
  refine t_l fX9_fault_0 rfl rfl rfl rfl ?_
  obtain ⟨g2, h⟩ := gd_some h
  refine k9_if_ne fX9_fault_1 rfl g2 (fun c1 => ?_) (fun c1 => ?_)
  · replace h := ite_f (c1) h
    refine t_l fX9_fault_12 rfl rfl rfl rfl ?_
    refine t_s fX9_fault_13 rfl rfl rfl ?_
    refine k9_ic_ne fX9_fault_14 rfl g2 ⟨by decide, by decide⟩ (fun c3 => ?_) (fun c3 => ?_)
    · replace h := ite_f (c3) h
      refine t_s fX9_fault_27 rfl rfl rfl ?_
      refine t_ret fX9_fault_28 rX9_fault ?_
      exact qf_i h
    · replace h := ite_t (Classical.not_not.mp c3) h
      refine t_l fX9_fault_17 rfl rfl rfl rfl ?_
      refine k9_gr fX9_fault_18 (hr0).1 kg_9_4 (s9_4r hr0) ?_
      refine k9_gi fX9_fault_21 (s9_4s hr0).1 kg_6_12 ?_
      refine k9_goto fX9_fault_24 rfl ?_
      refine t_ret fX9_fault_28 rX9_fault ?_
      exact qf_i h
  · replace h := ite_t (Classical.not_not.mp c1) h
    refine t_l fX9_fault_4 rfl rfl rfl rfl ?_
    refine k9_gr fX9_fault_5 (hr0).1 kg_9_4 (s9_4r hr0) ?_
    refine k9_gi fX9_fault_8 (s9_4s hr0).1 kg_6_11 ?_
    refine t_ret fX9_fault_11 rX9_fault ?_
    exact qf_i h

theorem q_X9_countAway {X : mX} {n z : Nat} {G : mG} {r0 : Nat} (hr0 : is9 G r0) {V V' : mV} {v : Int} (h : F_X9_countAway G r0 V = some (V', v)) : Rn X (2) 147 [.ref r0] n z G V n z G V' (some (.int (iI v))) := by
  refine qi_toR (v := v) (L := [some (.ref r0)]) rfl ?_
  unfold F_X9_countAway at h
  refine t_l fX9_countAway_0 rfl rfl rfl rfl ?_
  refine k9_gr fX9_countAway_1 (hr0).1 kg_9_8 (s9_8r hr0) ?_
  refine k9_gr fX9_countAway_4 (s9_8s hr0).1 kg_4_1 (s4_1r (s9_8s hr0)) ?_
  refine t_s fX9_countAway_7 rfl rfl rfl ?_
  obtain ⟨V1, v2, e3, h⟩ := bd_some h
  refine kcX7_count fX9_countAway_8 (s4_1s (s9_8s hr0)).1 rfl (q_X7_count (s4_1s (s9_8s hr0)) e3) (by decide) ?_
  refine t_ret fX9_countAway_11 rX9_countAway ?_
  exact qf_i h

theorem tb_X9_countElsewhere_4 {X : mX} {n z : Nat} {G : mG} {r0 : Nat} (hr0 : is9 G r0) {x1 x2 : Int} {j3 : Option Value} {V V' : mV} {q : Nat × Int × Int} {Q : Nat → Nat → mG → mV → Option Value → Prop} (h0 : q.1 = 0 → ∀ j3 : Option Value, T X (1) 148 4 [some (.ref r0), some (.int (iI q.2.1)), some (.int (iI q.2.2)), j3] [] n z G V' Q) (h1 : q.1 = 1 → ∀ j3 : Option Value, T X (1) 148 49 [some (.ref r0), some (.int (iI q.2.1)), some (.int (iI q.2.2)), j3] [] n z G V' Q) (h : B_X9_countElsewhere_4 G r0 x1 x2 V = some (V', q)) : T X (1) 148 4 [some (.ref r0), some (.int (iI x1)), some (.int (iI x2)), j3] [] n z G V Q := by
  unfold B_X9_countElsewhere_4 at h
  refine t_l fX9_countElsewhere_4 rfl rfl rfl rfl ?_
  refine t_l fX9_countElsewhere_5 rfl rfl rfl rfl ?_
  refine k9_gr fX9_countElsewhere_6 (hr0).1 kg_9_10 (s9_10r hr0) ?_
  refine k9_gr fX9_countElsewhere_9 (s9_10s hr0).1 kg_1_0 (s1_0r (s9_10s hr0)) ?_
  obtain ⟨V1, v2, e3, h⟩ := bd_some h
  refine kcX7_size fX9_countElsewhere_12 (s1_0s (s9_10s hr0)).1 rfl (q_X7_size (s1_0s (s9_10s hr0)) e3) (by decide) ?_
  obtain ⟨g5, h⟩ := gd_some h
  obtain ⟨g6, h⟩ := gd_some h
  refine k9_ic_ge fX9_countElsewhere_15 rfl g5 g6 (fun c4 => ?_) (fun c4 => ?_)
  · replace h := ite_t (c4) h
    cases h
    exact h1 rfl _
  · replace h := ite_f (c4) h
    refine t_l fX9_countElsewhere_18 rfl rfl rfl rfl ?_
    refine k9_gr fX9_countElsewhere_19 (hr0).1 kg_9_8 (s9_8r hr0) ?_
    refine k9_gr fX9_countElsewhere_22 (s9_8s hr0).1 kg_4_1 (s4_1r (s9_8s hr0)) ?_
    refine t_l fX9_countElsewhere_25 rfl rfl rfl rfl ?_
    obtain ⟨V7, v8, e9, h⟩ := bd_some h
    refine kcX7_get fX9_countElsewhere_26 (s4_1s (s9_8s hr0)).1 rfl (q_X7_get (s4_1s (s9_8s hr0)) e9) (by decide) ?_
    refine t_l fX9_countElsewhere_29 rfl rfl rfl rfl ?_
    refine t_l fX9_countElsewhere_30 rfl rfl rfl rfl ?_
    refine t_s fX9_countElsewhere_31 rfl rfl rfl ?_
    obtain ⟨g11, h⟩ := gd_some h
    refine k9_ic_eq fX9_countElsewhere_32 rfl g11 ⟨by decide, by decide⟩ (fun c10 => ?_) (fun c10 => ?_)
    · replace h := ite_t (c10) h
      replace h := lt_some h
      refine k9_iinc fX9_countElsewhere_43 rfl (Nat.le_of_ble_eq_true rfl) rfl ?_
      refine k9_goto fX9_countElsewhere_46 rfl ?_
      cases h
      exact h0 rfl _
    · replace h := ite_f (c10) h
      refine t_l fX9_countElsewhere_35 rfl rfl rfl rfl ?_
      refine t_l fX9_countElsewhere_36 rfl rfl rfl rfl ?_
      refine k9_ic_eq fX9_countElsewhere_37 rfl g11 g5 (fun c13 => ?_) (fun c13 => ?_)
      · replace h := ite_t (c13) h
        replace h := lt_some h
        refine k9_iinc fX9_countElsewhere_43 rfl (Nat.le_of_ble_eq_true rfl) rfl ?_
        refine k9_goto fX9_countElsewhere_46 rfl ?_
        cases h
        exact h0 rfl _
      · replace h := ite_f (c13) h
        replace h := lt_some h
        refine k9_iinc fX9_countElsewhere_40 rfl (Nat.le_of_ble_eq_true rfl) rfl ?_
        replace h := lt_some h
        refine k9_iinc fX9_countElsewhere_43 rfl (Nat.le_of_ble_eq_true rfl) rfl ?_
        refine k9_goto fX9_countElsewhere_46 rfl ?_
        cases h
        exact h0 rfl _

theorem tl_X9_countElsewhere_4 {X : mX} {n z : Nat} {G : mG} {r0 : Nat} (hr0 : is9 G r0) {x1 x2 : Int} {j3 : Option Value} {V V' : mV} {fu : Nat} {q : Nat × Int × Int} {Q : Nat → Nat → mG → mV → Option Value → Prop} (k1 : q.1 = 1 → ∀ j3 : Option Value, T X (1) 148 49 [some (.ref r0), some (.int (iI q.2.1)), some (.int (iI q.2.2)), j3] [] n z G V' Q) (h : lp (fun (s : Int × Int) V => B_X9_countElsewhere_4 G r0 s.1 s.2 V) fu (x1, x2) V = some (V', q)) : T X (1) 148 4 [some (.ref r0), some (.int (iI x1)), some (.int (iI x2)), j3] [] n z G V Q :=
  lp_go (P0 := fun s V => ∀ j3 : Option Value, T X (1) 148 4 [some (.ref r0), some (.int (iI s.1)), some (.int (iI s.2)), j3] [] n z G V Q) (PE := fun t s V => (t = 1 → ∀ j3 : Option Value, T X (1) 148 49 [some (.ref r0), some (.int (iI s.1)), some (.int (iI s.2)), j3] [] n z G V Q)) (fun s V V' q hb h0 h1 => fun _ => tb_X9_countElsewhere_4 hr0  h0 (fun e => (h1 (by omega)) e) hb) fu (x1, x2) V V' q h k1 _

theorem q_X9_countElsewhere {X : mX} {n z : Nat} {G : mG} {r0 : Nat} (hr0 : is9 G r0) {V V' : mV} {v : Int} (h : F_X9_countElsewhere G r0 V = some (V', v)) : Rn X (1) 148 [.ref r0] n z G V n z G V' (some (.int (iI v))) := by
  refine qi_toR (v := v) (L := [some (.ref r0), none, none, none]) rfl ?_
  unfold F_X9_countElsewhere at h
  refine t_s fX9_countElsewhere_0 rfl rfl rfl ?_
  refine t_l fX9_countElsewhere_1 rfl rfl rfl rfl ?_
  refine t_s fX9_countElsewhere_2 rfl rfl rfl ?_
  refine t_l fX9_countElsewhere_3 rfl rfl rfl rfl ?_
  obtain ⟨V17, u18, e19, h⟩ := bd_some h
  refine tl_X9_countElsewhere_4 hr0  (fun e20 j3 => ?_) e19
  refine t_l fX9_countElsewhere_49 rfl rfl rfl rfl ?_
  refine t_ret fX9_countElsewhere_50 rX9_countElsewhere ?_
  exact qf_i h

theorem q_X9_has {X : mX} {n z : Nat} {G : mG} {r0 : Nat} (hr0 : is9 G r0) {x1 : Int} {V V' : mV} {v : Int} (h : F_X9_has G r0 x1 V = some (V', v)) : Rn X (3) 113 [.ref r0, .int (iI x1)] n z G V n z G V' (some (.int (iI v))) := by
  refine qi_toR (v := v) (L := [some (.ref r0), some (.int (iI x1))]) rfl ?_
  unfold F_X9_has at h
  refine t_l fX9_has_0 rfl rfl rfl rfl ?_
  obtain ⟨g1, h⟩ := gd_some h
  by_cases c2 : x1 = 0
  · replace h := ite_t c2 h
    refine k9_sw 52 fX9_has_1 g1 (by rw [c2]; rfl) (by rw [c2]; exact Or.inr (Or.inr rfl)) ?_
    refine t_l fX9_has_52 rfl rfl rfl rfl ?_
    refine k9_gr fX9_has_53 (hr0).1 kg_9_10 (s9_10r hr0) ?_
    refine k9_gr fX9_has_56 (s9_10s hr0).1 kg_1_0 (s1_0r (s9_10s hr0)) ?_
    obtain ⟨V3, v4, e5, h⟩ := bd_some h
    refine kcX7_size fX9_has_59 (s1_0s (s9_10s hr0)).1 rfl (q_X7_size (s1_0s (s9_10s hr0)) e5) (by decide) ?_
    refine t_ret fX9_has_62 rX9_has ?_
    exact qf_i h
  replace h := ite_f c2 h
  by_cases c6 : x1 = 1
  · replace h := ite_t c6 h
    refine k9_sw 63 fX9_has_1 g1 (by rw [c6]; rfl) (by rw [c6]; exact Or.inr (Or.inr rfl)) ?_
    refine t_l fX9_has_63 rfl rfl rfl rfl ?_
    refine k9_gr fX9_has_64 (hr0).1 kg_9_10 (s9_10r hr0) ?_
    refine k9_gr fX9_has_67 (s9_10s hr0).1 kg_1_5 (s1_5r (s9_10s hr0)) ?_
    obtain ⟨V7, v8, e9, h⟩ := bd_some h
    refine kcX7_size fX9_has_70 (s1_5s (s9_10s hr0)).1 rfl (q_X7_size (s1_5s (s9_10s hr0)) e9) (by decide) ?_
    refine t_ret fX9_has_73 rX9_has ?_
    exact qf_i h
  replace h := ite_f c6 h
  by_cases c10 : x1 = 2
  · replace h := ite_t c10 h
    refine k9_sw 74 fX9_has_1 g1 (by rw [c10]; rfl) (by rw [c10]; exact Or.inr (Or.inr rfl)) ?_
    refine t_l fX9_has_74 rfl rfl rfl rfl ?_
    refine k9_gr fX9_has_75 (hr0).1 kg_9_10 (s9_10r hr0) ?_
    refine k9_gr fX9_has_78 (s9_10s hr0).1 kg_1_7 (s1_7r (s9_10s hr0)) ?_
    obtain ⟨V11, v12, e13, h⟩ := bd_some h
    refine kcX7_size fX9_has_81 (s1_7s (s9_10s hr0)).1 rfl (q_X7_size (s1_7s (s9_10s hr0)) e13) (by decide) ?_
    refine t_ret fX9_has_84 rX9_has ?_
    exact qf_i h
  replace h := ite_f c10 h
  by_cases c14 : x1 = 3
  · replace h := ite_t c14 h
    refine k9_sw 85 fX9_has_1 g1 (by rw [c14]; rfl) (by rw [c14]; exact Or.inr (Or.inr rfl)) ?_
    refine t_l fX9_has_85 rfl rfl rfl rfl ?_
    refine k9_gr fX9_has_86 (hr0).1 kg_9_8 (s9_8r hr0) ?_
    refine k9_gi fX9_has_89 (s9_8s hr0).1 kg_4_0 ?_
    refine t_ret fX9_has_92 rX9_has ?_
    exact qf_i h
  replace h := ite_f c14 h
  by_cases c15 : x1 = 4
  · replace h := ite_t c15 h
    refine k9_sw 93 fX9_has_1 g1 (by rw [c15]; rfl) (by rw [c15]; exact Or.inr (Or.inr rfl)) ?_
    refine t_l fX9_has_93 rfl rfl rfl rfl ?_
    obtain ⟨V16, v17, e18, h⟩ := bd_some h
    refine kcX9_countAway fX9_has_94 (hr0).1 rfl (q_X9_countAway (hr0) e18) (by decide) ?_
    refine t_ret fX9_has_97 rX9_has ?_
    exact qf_i h
  replace h := ite_f c15 h
  by_cases c19 : x1 = 5
  · replace h := ite_t c19 h
    refine k9_sw 98 fX9_has_1 g1 (by rw [c19]; rfl) (by rw [c19]; exact Or.inr (Or.inr rfl)) ?_
    refine t_l fX9_has_98 rfl rfl rfl rfl ?_
    obtain ⟨V20, v21, e22, h⟩ := bd_some h
    refine kcX9_countAway fX9_has_99 (hr0).1 rfl (q_X9_countAway (hr0) e22) (by decide) ?_
    refine t_ret fX9_has_102 rX9_has ?_
    exact qf_i h
  replace h := ite_f c19 h
  by_cases c23 : x1 = 6
  · replace h := ite_t c23 h
    refine k9_sw 103 fX9_has_1 g1 (by rw [c23]; rfl) (by rw [c23]; exact Or.inr (Or.inr rfl)) ?_
    refine t_l fX9_has_103 rfl rfl rfl rfl ?_
    obtain ⟨V24, v25, e26, h⟩ := bd_some h
    refine kcX9_countElsewhere fX9_has_104 (hr0).1 rfl (q_X9_countElsewhere (hr0) e26) (by decide) ?_
    refine t_ret fX9_has_107 rX9_has ?_
    exact qf_i h
  replace h := ite_f c23 h
  by_cases c27 : x1 = 7
  · replace h := ite_t c27 h
    refine k9_sw 108 fX9_has_1 g1 (by rw [c27]; rfl) (by rw [c27]; exact Or.inr (Or.inr rfl)) ?_
    refine t_l fX9_has_108 rfl rfl rfl rfl ?_
    refine k9_gr fX9_has_109 (hr0).1 kg_9_8 (s9_8r hr0) ?_
    obtain ⟨V28, v29, e30, h⟩ := bd_some h
    refine kcX4_keptCount fX9_has_112 (s9_8s hr0).1 rfl (q_X4_keptCount (s9_8s hr0) e30) (by decide) ?_
    refine t_ret fX9_has_115 rX9_has ?_
    exact qf_i h
  replace h := ite_f c27 h
  by_cases c31 : x1 = 8
  · replace h := ite_t c31 h
    refine k9_sw 116 fX9_has_1 g1 (by rw [c31]; rfl) (by rw [c31]; exact Or.inr (Or.inr rfl)) ?_
    refine t_l fX9_has_116 rfl rfl rfl rfl ?_
    refine k9_gr fX9_has_117 (hr0).1 kg_9_7 (s9_7r hr0) ?_
    obtain ⟨V32, v33, e34, h⟩ := bd_some h
    refine kcX5_size fX9_has_120 (s9_7s hr0).1 rfl (q_X5_size (s9_7s hr0) e34) (by decide) ?_
    refine t_ret fX9_has_123 rX9_has ?_
    exact qf_i h
  replace h := ite_f c31 h
  have hd1 : (x1 < 0 ∨ 8 < x1) := by omega
  refine k9_sw 124 fX9_has_1 g1 (by rw [if_pos hd1]; rfl) (by omega) ?_
  refine t_s fX9_has_124 rfl rfl rfl ?_
  refine t_ret fX9_has_125 rX9_has ?_
  exact qf_i h


theorem q_X10_isIn {X : mX} {n z : Nat} {G : mG}  {x0 x2 x4 : Int} {V V' : mV} {v : Int} (h : F_X10_isIn G x0 x2 x4 V = some (V', v)) : Rn X (0) 159 [.long (lI x0), .long (lI x2), .long (lI x4)] n z G V n z G V' (some (.int (iI v))) := by
  refine qi_toR (v := v) (L := [some (.long (lI x0)), none, some (.long (lI x2)), none, some (.long (lI x4)), none]) rfl ?_
  unfold F_X10_isIn at h
  refine t_l fX10_isIn_0 rfl rfl rfl rfl ?_
  refine t_l fX10_isIn_1 rfl rfl rfl rfl ?_
  obtain ⟨g1, h⟩ := gd_some h
  obtain ⟨g2, h⟩ := gd_some h
  refine k9_lcmp fX10_isIn_2 g1 g2 ?_
  refine k9_if_lt fX10_isIn_3 rfl (cmp_rg _ _) (fun c3 => ?_) (fun c3 => ?_)
  · replace h := ite_t (cmp_lt.mp c3) h
    refine t_s fX10_isIn_17 rfl rfl rfl ?_
    refine t_ret fX10_isIn_18 (rX10_isIn _ (by decide)) ?_
    exact qf_i h
  · replace h := ite_f (fun q => c3 (cmp_lt.mpr q)) h
    refine t_l fX10_isIn_6 rfl rfl rfl rfl ?_
    refine t_l fX10_isIn_7 rfl rfl rfl rfl ?_
    obtain ⟨g4, h⟩ := gd_some h
    refine k9_lcmp fX10_isIn_9 g1 g4 ?_
    refine k9_if_gt fX10_isIn_10 rfl (cmp_rg _ _) (fun c5 => ?_) (fun c5 => ?_)
    · replace h := ite_t (cmp_gt.mp c5) h
      refine t_s fX10_isIn_17 rfl rfl rfl ?_
      refine t_ret fX10_isIn_18 (rX10_isIn _ (by decide)) ?_
      exact qf_i h
    · replace h := ite_f (fun q => c5 (cmp_gt.mpr q)) h
      refine t_s fX10_isIn_13 rfl rfl rfl ?_
      refine k9_goto fX10_isIn_14 rfl ?_
      refine t_ret fX10_isIn_18 (rX10_isIn _ (by decide)) ?_
      exact qf_i h

theorem tj_X10_feed_J81_28 {X : mX} {n z : Nat} {G : mG} {r0 : Nat} (hr0 : is10 G r0) {x1 x2 x3 x4 x5 x6 s0 : Int} {j7 : Option Value} {V V' : mV} {q : Nat × Int} {Q : Nat → Nat → mG → mV → Option Value → Prop} (h0 : q.1 = 0 → ∀ j7 : Option Value, T X (0) 160 28 [some (.ref r0), some (.int (iI x1)), some (.int (iI x2)), some (.int (iI x3)), some (.int (iI x4)), some (.int (iI x5)), some (.int (iI q.2)), j7] [] n z G V' Q) (h1 : q.1 = 1 → ∀ j7 : Option Value, T X (0) 160 124 [some (.ref r0), some (.int (iI x1)), some (.int (iI x2)), some (.int (iI x3)), some (.int (iI x4)), some (.int (iI x5)), some (.int (iI q.2)), j7] [] n z G V' Q) (h : F_X10_feed_J81_28 G r0 x1 x2 x3 x4 x5 x6 s0 V = some (V', q)) : T X (0) 160 81 [some (.ref r0), some (.int (iI x1)), some (.int (iI x2)), some (.int (iI x3)), some (.int (iI x4)), some (.int (iI x5)), some (.int (iI x6)), j7] [.int (iI s0)] n z G V Q := by
  unfold F_X10_feed_J81_28 at h
  refine t_l fX10_feed_81 rfl rfl rfl rfl ?_
  refine t_l fX10_feed_83 rfl rfl rfl rfl ?_
  refine k9_gr fX10_feed_84 (hr0).1 kg_10_0 (s10_0r hr0) ?_
  refine t_l fX10_feed_87 rfl rfl rfl rfl ?_
  refine k9_gi fX10_feed_88 (hr0).1 kg_10_1 ?_
  refine t_l fX10_feed_91 rfl rfl rfl rfl ?_
  refine t_s fX10_feed_93 rfl rfl rfl ?_
  refine t_s fX10_feed_95 rfl rfl rfl ?_
  refine t_l fX10_feed_96 rfl rfl rfl rfl ?_
  refine t_s fX10_feed_98 rfl rfl rfl ?_
  obtain ⟨g9, h⟩ := gd_some h
  refine k9_irem fX10_feed_99 g9 ⟨by decide, by decide⟩ (by decide) ?_
  refine k9_isub fX10_feed_100 ?_
  refine k9_imul fX10_feed_101 ?_
  obtain ⟨g10, h⟩ := gd_some h
  obtain ⟨g11, h⟩ := gd_some h
  refine k8_ishr fX10_feed_102 g10 g11 ?_
  refine t_s fX10_feed_103 rfl rfl rfl ?_
  refine k8_iand256 fX10_feed_106 ?_
  obtain ⟨g12, h⟩ := gd_some h
  refine k9_is fX10_feed_107 (s10_0s hr0) g12.1 g12.2.1 g12.2.2 ?_
  replace h := lt_some h
  refine t_l fX10_feed_108 rfl rfl rfl rfl ?_
  refine t_s fX10_feed_109 rfl rfl rfl ?_
  refine k9_gi fX10_feed_110 (hr0).1 kg_10_1 ?_
  refine t_s fX10_feed_113 rfl rfl rfl ?_
  refine k9_iadd fX10_feed_114 ?_
  refine k9_pi fX10_feed_115 (hr0).1 kp_10_1 ?_
  replace h := lt_some h
  replace h := lt_some h
  refine k9_iinc fX10_feed_118 rfl (Nat.le_of_ble_eq_true rfl) rfl ?_
  refine k9_goto fX10_feed_121 rfl ?_
  cases h
  exact h0 rfl _

theorem tb_X10_feed_28 {X : mX} {n z : Nat} {G : mG} {r0 : Nat} (hr0 : is10 G r0) {x1 x2 x3 x4 x5 x6 : Int} {j7 : Option Value} {V V' : mV} {q : Nat × Int} {Q : Nat → Nat → mG → mV → Option Value → Prop} (h0 : q.1 = 0 → ∀ j7 : Option Value, T X (0) 160 28 [some (.ref r0), some (.int (iI x1)), some (.int (iI x2)), some (.int (iI x3)), some (.int (iI x4)), some (.int (iI x5)), some (.int (iI q.2)), j7] [] n z G V' Q) (h1 : q.1 = 1 → ∀ j7 : Option Value, T X (0) 160 124 [some (.ref r0), some (.int (iI x1)), some (.int (iI x2)), some (.int (iI x3)), some (.int (iI x4)), some (.int (iI x5)), some (.int (iI q.2)), j7] [] n z G V' Q) (h : B_X10_feed_28 G r0 x1 x2 x3 x4 x5 x6 V = some (V', q)) : T X (0) 160 28 [some (.ref r0), some (.int (iI x1)), some (.int (iI x2)), some (.int (iI x3)), some (.int (iI x4)), some (.int (iI x5)), some (.int (iI x6)), j7] [] n z G V Q := by
  unfold B_X10_feed_28 at h
  refine t_l fX10_feed_28 rfl rfl rfl rfl ?_
  refine t_s fX10_feed_30 rfl rfl rfl ?_
  obtain ⟨g4, h⟩ := gd_some h
  refine k9_ic_ge fX10_feed_32 rfl g4 ⟨by decide, by decide⟩ (fun c3 => ?_) (fun c3 => ?_)
  · replace h := ite_t (c3) h
    cases h
    exact h1 rfl _
  · replace h := ite_f (c3) h
    refine t_l fX10_feed_35 rfl rfl rfl rfl ?_
    refine t_s fX10_feed_37 rfl rfl rfl ?_
    refine k9_ic_ge fX10_feed_38 rfl g4 ⟨by decide, by decide⟩ (fun c5 => ?_) (fun c5 => ?_)
    · replace h := ite_t (c5) h
      refine t_l fX10_feed_45 rfl rfl rfl rfl ?_
      refine t_s fX10_feed_47 rfl rfl rfl ?_
      refine k9_ic_ge fX10_feed_49 rfl g4 ⟨by decide, by decide⟩ (fun c6 => ?_) (fun c6 => ?_)
      · replace h := ite_t (c6) h
        refine t_l fX10_feed_56 rfl rfl rfl rfl ?_
        refine t_s fX10_feed_58 rfl rfl rfl ?_
        refine k9_ic_ge fX10_feed_60 rfl g4 ⟨by decide, by decide⟩ (fun c7 => ?_) (fun c7 => ?_)
        · replace h := ite_t (c7) h
          refine t_l fX10_feed_67 rfl rfl rfl rfl ?_
          refine t_s fX10_feed_69 rfl rfl rfl ?_
          refine k9_ic_ge fX10_feed_71 rfl g4 ⟨by decide, by decide⟩ (fun c8 => ?_) (fun c8 => ?_)
          · replace h := ite_t (c8) h
            refine t_l fX10_feed_79 rfl rfl rfl rfl ?_
            exact tj_X10_feed_J81_28 hr0  h0 h1 h
          · replace h := ite_f (c8) h
            refine t_l fX10_feed_74 rfl rfl rfl rfl ?_
            refine k9_goto fX10_feed_76 rfl ?_
            exact tj_X10_feed_J81_28 hr0  h0 h1 h
        · replace h := ite_f (c7) h
          refine t_l fX10_feed_63 rfl rfl rfl rfl ?_
          refine k9_goto fX10_feed_64 rfl ?_
          exact tj_X10_feed_J81_28 hr0  h0 h1 h
      · replace h := ite_f (c6) h
        refine t_l fX10_feed_52 rfl rfl rfl rfl ?_
        refine k9_goto fX10_feed_53 rfl ?_
        exact tj_X10_feed_J81_28 hr0  h0 h1 h
    · replace h := ite_f (c5) h
      refine t_l fX10_feed_41 rfl rfl rfl rfl ?_
      refine k9_goto fX10_feed_42 rfl ?_
      exact tj_X10_feed_J81_28 hr0  h0 h1 h

theorem tl_X10_feed_28 {X : mX} {n z : Nat} {G : mG} {r0 : Nat} (hr0 : is10 G r0) {x1 x2 x3 x4 x5 x6 : Int} {j7 : Option Value} {V V' : mV} {fu : Nat} {q : Nat × Int} {Q : Nat → Nat → mG → mV → Option Value → Prop} (k1 : q.1 = 1 → ∀ j7 : Option Value, T X (0) 160 124 [some (.ref r0), some (.int (iI x1)), some (.int (iI x2)), some (.int (iI x3)), some (.int (iI x4)), some (.int (iI x5)), some (.int (iI q.2)), j7] [] n z G V' Q) (h : lp (fun (s : Int) V => B_X10_feed_28 G r0 x1 x2 x3 x4 x5 s V) fu x6 V = some (V', q)) : T X (0) 160 28 [some (.ref r0), some (.int (iI x1)), some (.int (iI x2)), some (.int (iI x3)), some (.int (iI x4)), some (.int (iI x5)), some (.int (iI x6)), j7] [] n z G V Q :=
  lp_go (P0 := fun s V => ∀ j7 : Option Value, T X (0) 160 28 [some (.ref r0), some (.int (iI x1)), some (.int (iI x2)), some (.int (iI x3)), some (.int (iI x4)), some (.int (iI x5)), some (.int (iI s)), j7] [] n z G V Q) (PE := fun t s V => (t = 1 → ∀ j7 : Option Value, T X (0) 160 124 [some (.ref r0), some (.int (iI x1)), some (.int (iI x2)), some (.int (iI x3)), some (.int (iI x4)), some (.int (iI x5)), some (.int (iI s)), j7] [] n z G V Q)) (fun s V V' q hb h0 h1 => fun _ => tb_X10_feed_28 hr0  h0 (fun e => (h1 (by omega)) e) hb) fu x6 V V' q h k1 _

theorem q_X10_feed {X : mX} {n z : Nat} {G : mG} {r0 : Nat} (hr0 : is10 G r0) {x1 x2 x3 x4 x5 : Int} {V V' : mV} {v : Int} (h : F_X10_feed G r0 x1 x2 x3 x4 x5 V = some (V', v)) : Rn X (0) 160 [.ref r0, .int (iI x1), .int (iI x2), .int (iI x3), .int (iI x4), .int (iI x5)] n z G V n z G V' (some (.int (iI v))) := by
  refine qi_toR (v := v) (L := [some (.ref r0), some (.int (iI x1)), some (.int (iI x2)), some (.int (iI x3)), some (.int (iI x4)), some (.int (iI x5)), none, none]) rfl ?_
  unfold F_X10_feed at h
  refine t_l fX10_feed_0 rfl rfl rfl rfl ?_
  refine k9_gi fX10_feed_1 (hr0).1 kg_10_1 ?_
  refine t_s fX10_feed_4 rfl rfl rfl ?_
  refine k9_iadd fX10_feed_6 ?_
  refine t_s fX10_feed_7 rfl rfl rfl ?_
  obtain ⟨g2, h⟩ := gd_some h
  refine k9_ic_le fX10_feed_10 rfl g2 ⟨by decide, by decide⟩ (fun c1 => ?_) (fun c1 => ?_)
  · replace h := ite_t (c1) h
    refine t_s fX10_feed_25 rfl rfl rfl ?_
    refine t_l fX10_feed_26 rfl rfl rfl rfl ?_
    obtain ⟨V16, u17, e18, h⟩ := bd_some h
    refine tl_X10_feed_28 hr0  (fun e19 j7 => ?_) e18
    refine t_l fX10_feed_124 rfl rfl rfl rfl ?_
    refine k9_gi fX10_feed_125 (hr0).1 kg_10_1 ?_
    refine t_ret fX10_feed_128 rX10_feed ?_
    exact qf_i h
  · replace h := ite_f (c1) h
    refine t_l fX10_feed_13 rfl rfl rfl rfl ?_
    refine k9_gr fX10_feed_14 (hr0).1 kg_10_9 (s10_9r hr0) ?_
    refine t_s fX10_feed_17 rfl rfl rfl ?_
    refine t_s fX10_feed_18 rfl rfl rfl ?_
    refine k9_ia fX10_feed_19 (s10_9s hr0) (by decide) (by decide) (by decide) ?_
    refine t_s fX10_feed_20 rfl rfl rfl ?_
    refine k9_iadd fX10_feed_21 ?_
    refine k9_is fX10_feed_22 (s10_9s hr0) (by decide) (by decide) (by decide) ?_
    replace h := lt_some h
    refine t_s fX10_feed_23 rfl rfl rfl ?_
    refine t_ret fX10_feed_24 rX10_feed ?_
    exact qf_i h

theorem tj_X10_end_J12 {X : mX} {n z : Nat} {G : mG} {r0 : Nat} (hr0 : is10 G r0) {x1 : Int} {V V' : mV} {v : Int} (h : F_X10_end_J12 G r0 x1 V = some (V', v)) : T X (0) 161 12 [some (.ref r0), some (.int (iI x1))] [] n z G V (qi n z G V' v) := by
  unfold F_X10_end_J12 at h
  refine t_l fX10_end_12 rfl rfl rfl rfl ?_
  refine k9_gr fX10_end_13 (hr0).1 kg_10_9 (s10_9r hr0) ?_
  refine t_s fX10_end_16 rfl rfl rfl ?_
  refine t_s fX10_end_17 rfl rfl rfl ?_
  refine k9_ia fX10_end_18 (s10_9s hr0) (by decide) (by decide) (by decide) ?_
  refine t_s fX10_end_19 rfl rfl rfl ?_
  refine k9_iadd fX10_end_20 ?_
  refine k9_is fX10_end_21 (s10_9s hr0) (by decide) (by decide) (by decide) ?_
  replace h := lt_some h
  refine t_s fX10_end_22 rfl rfl rfl ?_
  refine t_ret fX10_end_23 (rX10_end _ (by decide)) ?_
  exact qf_i h

theorem q_X10_end {X : mX} {n z : Nat} {G : mG} {r0 : Nat} (hr0 : is10 G r0) {x1 : Int} {V V' : mV} {v : Int} (h : F_X10_end G r0 x1 V = some (V', v)) : Rn X (0) 161 [.ref r0, .int (iI x1)] n z G V n z G V' (some (.int (iI v))) := by
  refine qi_toR (v := v) (L := [some (.ref r0), some (.int (iI x1))]) rfl ?_
  unfold F_X10_end at h
  refine t_l fX10_end_0 rfl rfl rfl rfl ?_
  obtain ⟨g2, h⟩ := gd_some h
  refine k9_if_lt fX10_end_1 rfl g2 (fun c1 => ?_) (fun c1 => ?_)
  · replace h := ite_t (c1) h
    exact tj_X10_end_J12 hr0   h
  · replace h := ite_f (c1) h
    refine t_l fX10_end_4 rfl rfl rfl rfl ?_
    refine t_l fX10_end_5 rfl rfl rfl rfl ?_
    refine k9_gi fX10_end_6 (hr0).1 kg_10_1 ?_
    obtain ⟨g5, h⟩ := gd_some h
    refine k9_ic_le fX10_end_9 rfl g2 g5 (fun c4 => ?_) (fun c4 => ?_)
    · replace h := ite_t (c4) h
      refine t_l fX10_end_24 rfl rfl rfl rfl ?_
      refine t_l fX10_end_25 rfl rfl rfl rfl ?_
      refine k9_pi fX10_end_26 (hr0).1 kp_10_1 ?_
      replace h := lt_some h
      refine t_s fX10_end_29 rfl rfl rfl ?_
      refine t_ret fX10_end_30 (rX10_end _ (by decide)) ?_
      exact qf_i h
    · replace h := ite_f (c4) h
      exact tj_X10_end_J12 hr0   h

theorem q_X10_fail {X : mX} {n z : Nat} {G : mG} {r0 : Nat} (hr0 : is10 G r0) {x1 x2 : Int} {V V' : mV} {v : Int} (h : F_X10_fail G r0 x1 x2 V = some (V', v)) : Rn X (0) 162 [.ref r0, .int (iI x1), .int (iI x2)] n z G V n z G V' none := by
  refine qv_toR (v := v) (L := [some (.ref r0), some (.int (iI x1)), some (.int (iI x2))]) rfl ?_
  unfold F_X10_fail at h
  refine t_l fX10_fail_0 rfl rfl rfl rfl ?_
  refine k9_gi fX10_fail_1 (hr0).1 kg_10_5 ?_
  obtain ⟨g2, h⟩ := gd_some h
  refine k9_if_eq fX10_fail_4 rfl g2 (fun c1 => ?_) (fun c1 => ?_)
  · replace h := ite_t (c1) h
    refine t_l fX10_fail_8 rfl rfl rfl rfl ?_
    refine t_l fX10_fail_9 rfl rfl rfl rfl ?_
    refine k9_pi fX10_fail_10 (hr0).1 kp_10_5 ?_
    replace h := lt_some h
    refine t_l fX10_fail_13 rfl rfl rfl rfl ?_
    refine t_l fX10_fail_14 rfl rfl rfl rfl ?_
    refine k9_pi fX10_fail_15 (hr0).1 kp_10_6 ?_
    replace h := lt_some h
    refine t_ret fX10_fail_18 rX10_fail ?_
    exact qf_v h
  · replace h := ite_f (c1) h
    refine t_ret fX10_fail_7 rX10_fail ?_
    exact qf_v h

theorem q_X10_isLetter {X : mX} {n z : Nat} {G : mG}  {x0 : Int} {V V' : mV} {v : Int} (h : F_X10_isLetter G x0 V = some (V', v)) : Rn X (0) 163 [.int (iI x0)] n z G V n z G V' (some (.int (iI v))) := by
  refine qi_toR (v := v) (L := [some (.int (iI x0))]) rfl ?_
  unfold F_X10_isLetter at h
  refine t_l fX10_isLetter_0 rfl rfl rfl rfl ?_
  refine t_s fX10_isLetter_1 rfl rfl rfl ?_
  obtain ⟨g2, h⟩ := gd_some h
  refine k9_ic_lt fX10_isLetter_3 rfl g2 ⟨by decide, by decide⟩ (fun c1 => ?_) (fun c1 => ?_)
  · replace h := ite_t (c1) h
    refine t_s fX10_isLetter_16 rfl rfl rfl ?_
    refine t_ret fX10_isLetter_17 (rX10_isLetter _ (by decide)) ?_
    exact qf_i h
  · replace h := ite_f (c1) h
    refine t_l fX10_isLetter_6 rfl rfl rfl rfl ?_
    refine t_s fX10_isLetter_7 rfl rfl rfl ?_
    refine k9_ic_gt fX10_isLetter_9 rfl g2 ⟨by decide, by decide⟩ (fun c3 => ?_) (fun c3 => ?_)
    · replace h := ite_t (c3) h
      refine t_s fX10_isLetter_16 rfl rfl rfl ?_
      refine t_ret fX10_isLetter_17 (rX10_isLetter _ (by decide)) ?_
      exact qf_i h
    · replace h := ite_f (c3) h
      refine t_s fX10_isLetter_12 rfl rfl rfl ?_
      refine k9_goto fX10_isLetter_13 rfl ?_
      refine t_ret fX10_isLetter_17 (rX10_isLetter _ (by decide)) ?_
      exact qf_i h

theorem q_X10_isDigit {X : mX} {n z : Nat} {G : mG}  {x0 : Int} {V V' : mV} {v : Int} (h : F_X10_isDigit G x0 V = some (V', v)) : Rn X (0) 164 [.int (iI x0)] n z G V n z G V' (some (.int (iI v))) := by
  refine qi_toR (v := v) (L := [some (.int (iI x0))]) rfl ?_
  unfold F_X10_isDigit at h
  refine t_l fX10_isDigit_0 rfl rfl rfl rfl ?_
  refine t_s fX10_isDigit_1 rfl rfl rfl ?_
  obtain ⟨g2, h⟩ := gd_some h
  refine k9_ic_lt fX10_isDigit_3 rfl g2 ⟨by decide, by decide⟩ (fun c1 => ?_) (fun c1 => ?_)
  · replace h := ite_t (c1) h
    refine t_s fX10_isDigit_16 rfl rfl rfl ?_
    refine t_ret fX10_isDigit_17 (rX10_isDigit _ (by decide)) ?_
    exact qf_i h
  · replace h := ite_f (c1) h
    refine t_l fX10_isDigit_6 rfl rfl rfl rfl ?_
    refine t_s fX10_isDigit_7 rfl rfl rfl ?_
    refine k9_ic_gt fX10_isDigit_9 rfl g2 ⟨by decide, by decide⟩ (fun c3 => ?_) (fun c3 => ?_)
    · replace h := ite_t (c3) h
      refine t_s fX10_isDigit_16 rfl rfl rfl ?_
      refine t_ret fX10_isDigit_17 (rX10_isDigit _ (by decide)) ?_
      exact qf_i h
    · replace h := ite_f (c3) h
      refine t_s fX10_isDigit_12 rfl rfl rfl ?_
      refine k9_goto fX10_isDigit_13 rfl ?_
      refine t_ret fX10_isDigit_17 (rX10_isDigit _ (by decide)) ?_
      exact qf_i h

theorem tj_X10_look_J39_0 {X : mX} {n z : Nat} {G : mG} {r0 : Nat} (hr0 : is10 G r0) {V V' : mV} {q : Nat × Unit} {Q : Nat → Nat → mG → mV → Option Value → Prop} (h0 : q.1 = 0 → T X (0) 165 0 [some (.ref r0)] [] n z G V' Q) (h1 : q.1 = 1 → T X (0) 165 52 [some (.ref r0)] [] n z G V' Q) (h : F_X10_look_J39_0 G r0 V = some (V', q)) : T X (0) 165 39 [some (.ref r0)] [] n z G V Q := by
  unfold F_X10_look_J39_0 at h
  refine t_l fX10_look_39 rfl rfl rfl rfl ?_
  refine t_s fX10_look_40 rfl rfl rfl ?_
  refine k9_gi fX10_look_41 (hr0).1 kg_10_2 ?_
  refine t_s fX10_look_44 rfl rfl rfl ?_
  refine k9_iadd fX10_look_45 ?_
  refine k9_pi fX10_look_46 (hr0).1 kp_10_2 ?_
  replace h := lt_some h
  refine k9_goto fX10_look_49 rfl ?_
  cases h
  exact h0 rfl

theorem tb_X10_look_0 {X : mX} {n z : Nat} {G : mG} {r0 : Nat} (hr0 : is10 G r0) {V V' : mV} {q : Nat × Unit} {Q : Nat → Nat → mG → mV → Option Value → Prop} (h0 : q.1 = 0 → T X (0) 165 0 [some (.ref r0)] [] n z G V' Q) (h1 : q.1 = 1 → T X (0) 165 52 [some (.ref r0)] [] n z G V' Q) (h : B_X10_look_0 G r0 V = some (V', q)) : T X (0) 165 0 [some (.ref r0)] [] n z G V Q := by
  unfold B_X10_look_0 at h
  refine t_l fX10_look_0 rfl rfl rfl rfl ?_
  refine k9_gi fX10_look_1 (hr0).1 kg_10_2 ?_
  refine t_l fX10_look_4 rfl rfl rfl rfl ?_
  refine k9_gi fX10_look_5 (hr0).1 kg_10_3 ?_
  obtain ⟨g2, h⟩ := gd_some h
  obtain ⟨g3, h⟩ := gd_some h
  refine k9_ic_ge fX10_look_8 rfl g2 g3 (fun c1 => ?_) (fun c1 => ?_)
  · replace h := ite_t (c1) h
    cases h
    exact h1 rfl
  · replace h := ite_f (c1) h
    refine t_l fX10_look_11 rfl rfl rfl rfl ?_
    refine k9_gr fX10_look_12 (hr0).1 kg_10_0 (s10_0r hr0) ?_
    refine t_l fX10_look_15 rfl rfl rfl rfl ?_
    refine k9_gi fX10_look_16 (hr0).1 kg_10_2 ?_
    obtain ⟨g4, h⟩ := gd_some h
    refine k9_ia fX10_look_19 (s10_0s hr0) g4.1 g4.2.1 g4.2.2 ?_
    refine t_s fX10_look_20 rfl rfl rfl ?_
    obtain ⟨g6, h⟩ := gd_some h
    refine k9_ic_eq fX10_look_22 rfl g6 ⟨by decide, by decide⟩ (fun c5 => ?_) (fun c5 => ?_)
    · replace h := ite_t (c5) h
      exact tj_X10_look_J39_0 hr0  h0 h1 h
    · replace h := ite_f (c5) h
      refine t_l fX10_look_25 rfl rfl rfl rfl ?_
      refine k9_gr fX10_look_26 (hr0).1 kg_10_0 (s10_0r hr0) ?_
      refine t_l fX10_look_29 rfl rfl rfl rfl ?_
      refine k9_gi fX10_look_30 (hr0).1 kg_10_2 ?_
      refine k9_ia fX10_look_33 (s10_0s hr0) g4.1 g4.2.1 g4.2.2 ?_
      refine t_s fX10_look_34 rfl rfl rfl ?_
      refine k9_ic_ne fX10_look_36 rfl g6 ⟨by decide, by decide⟩ (fun c8 => ?_) (fun c8 => ?_)
      · replace h := ite_f (c8) h
        cases h
        exact h1 rfl
      · replace h := ite_t (Classical.not_not.mp c8) h
        exact tj_X10_look_J39_0 hr0  h0 h1 h

theorem tl_X10_look_0 {X : mX} {n z : Nat} {G : mG} {r0 : Nat} (hr0 : is10 G r0) {V V' : mV} {fu : Nat} {q : Nat × Unit} {Q : Nat → Nat → mG → mV → Option Value → Prop} (k1 : q.1 = 1 → T X (0) 165 52 [some (.ref r0)] [] n z G V' Q) (h : lp (fun (s : Unit) V => B_X10_look_0 G r0  V) fu () V = some (V', q)) : T X (0) 165 0 [some (.ref r0)] [] n z G V Q :=
  lp_go (P0 := fun s V => T X (0) 165 0 [some (.ref r0)] [] n z G V Q) (PE := fun t s V => (t = 1 → T X (0) 165 52 [some (.ref r0)] [] n z G V Q)) (fun s V V' q hb h0 h1 => tb_X10_look_0 hr0  h0 (fun e => (h1 (by omega)) e) hb) fu () V V' q h k1

theorem tj_X10_look_J52 {X : mX} {n z : Nat} {G : mG} {r0 : Nat} (hr0 : is10 G r0) {V V' : mV} {v : Int} (h : F_X10_look_J52 G r0 V = some (V', v)) : T X (0) 165 52 [some (.ref r0)] [] n z G V (qi n z G V' v) := by
  unfold F_X10_look_J52 at h
  refine t_l fX10_look_52 rfl rfl rfl rfl ?_
  refine k9_gi fX10_look_53 (hr0).1 kg_10_2 ?_
  refine t_l fX10_look_56 rfl rfl rfl rfl ?_
  refine k9_gi fX10_look_57 (hr0).1 kg_10_3 ?_
  obtain ⟨g14, h⟩ := gd_some h
  obtain ⟨g15, h⟩ := gd_some h
  refine k9_ic_ge fX10_look_60 rfl g14 g15 (fun c13 => ?_) (fun c13 => ?_)
  · replace h := ite_t (c13) h
    refine t_s fX10_look_75 rfl rfl rfl ?_
    refine t_ret fX10_look_76 rX10_look ?_
    exact qf_i h
  · replace h := ite_f (c13) h
    refine t_l fX10_look_63 rfl rfl rfl rfl ?_
    refine k9_gr fX10_look_64 (hr0).1 kg_10_0 (s10_0r hr0) ?_
    refine t_l fX10_look_67 rfl rfl rfl rfl ?_
    refine k9_gi fX10_look_68 (hr0).1 kg_10_2 ?_
    obtain ⟨g16, h⟩ := gd_some h
    refine k9_ia fX10_look_71 (s10_0s hr0) g16.1 g16.2.1 g16.2.2 ?_
    refine k9_goto fX10_look_72 rfl ?_
    refine t_ret fX10_look_76 rX10_look ?_
    exact qf_i h

theorem q_X10_look {X : mX} {n z : Nat} {G : mG} {r0 : Nat} (hr0 : is10 G r0) {V V' : mV} {v : Int} (h : F_X10_look G r0 V = some (V', v)) : Rn X (0) 165 [.ref r0] n z G V n z G V' (some (.int (iI v))) := by
  refine qi_toR (v := v) (L := [some (.ref r0)]) rfl ?_
  unfold F_X10_look at h
  obtain ⟨V9, u10, e11, h⟩ := bd_some h
  refine tl_X10_look_0 hr0  (fun e12 => ?_) e11
  exact tj_X10_look_J52 hr0   h

theorem tb_X10_isHere_35 {X : mX} {n z : Nat} {G : mG} {r0 r1 : Nat} (hr0 : is10 G r0) (hr1 : G.1 r1 = .inr (1, qG G r1)) {x2 : Int} {j3 : Option Value} {V V' : mV} {q : Nat × Int} {Q : Nat → Nat → mG → mV → Option Value → Prop} (h0 : q.1 = 0 → ∀ j3 : Option Value, T X (1) 166 35 [some (.ref r0), some (.ref r1), some (.int (iI q.2)), j3] [] n z G V' Q) (h1 : q.1 = 1 → ∀ j3 : Option Value, T X (1) 166 61 [some (.ref r0), some (.ref r1), some (.int (iI q.2)), j3] [] n z G V' Q) (h : B_X10_isHere_35 G r0 r1 x2 V = some (V', q)) : T X (1) 166 35 [some (.ref r0), some (.ref r1), some (.int (iI x2)), j3] [] n z G V Q := by
  unfold B_X10_isHere_35 at h
  refine t_l fX10_isHere_35 rfl rfl rfl rfl ?_
  refine t_l fX10_isHere_36 rfl rfl rfl rfl ?_
  refine k9_gi fX10_isHere_37 (hr0).1 kg_10_3 ?_
  obtain ⟨g16, h⟩ := gd_some h
  obtain ⟨g17, h⟩ := gd_some h
  refine k9_ic_ge fX10_isHere_40 rfl g16 g17 (fun c15 => ?_) (fun c15 => ?_)
  · replace h := ite_t (c15) h
    cases h
    exact h1 rfl _
  · replace h := ite_f (c15) h
    refine t_l fX10_isHere_43 rfl rfl rfl rfl ?_
    refine k9_gr fX10_isHere_44 (hr0).1 kg_10_0 (s10_0r hr0) ?_
    refine t_l fX10_isHere_47 rfl rfl rfl rfl ?_
    obtain ⟨g18, h⟩ := gd_some h
    refine k9_ia fX10_isHere_48 (s10_0s hr0) g18.1 g18.2.1 g18.2.2 ?_
    obtain ⟨V19, v20, e21, h⟩ := bd_some h
    refine kcX10_isLetter fX10_isHere_49 rfl (q_X10_isLetter  e21) (by decide) ?_
    obtain ⟨g23, h⟩ := gd_some h
    refine k9_if_eq fX10_isHere_52 rfl g23 (fun c22 => ?_) (fun c22 => ?_)
    · replace h := ite_t (c22) h
      cases h
      exact h1 rfl _
    · replace h := ite_f (c22) h
      replace h := lt_some h
      refine k9_iinc fX10_isHere_55 rfl (Nat.le_of_ble_eq_true rfl) rfl ?_
      refine k9_goto fX10_isHere_58 rfl ?_
      cases h
      exact h0 rfl _

theorem tl_X10_isHere_35 {X : mX} {n z : Nat} {G : mG} {r0 r1 : Nat} (hr0 : is10 G r0) (hr1 : G.1 r1 = .inr (1, qG G r1)) {x2 : Int} {j3 : Option Value} {V V' : mV} {fu : Nat} {q : Nat × Int} {Q : Nat → Nat → mG → mV → Option Value → Prop} (k1 : q.1 = 1 → ∀ j3 : Option Value, T X (1) 166 61 [some (.ref r0), some (.ref r1), some (.int (iI q.2)), j3] [] n z G V' Q) (h : lp (fun (s : Int) V => B_X10_isHere_35 G r0 r1 s V) fu x2 V = some (V', q)) : T X (1) 166 35 [some (.ref r0), some (.ref r1), some (.int (iI x2)), j3] [] n z G V Q :=
  lp_go (P0 := fun s V => ∀ j3 : Option Value, T X (1) 166 35 [some (.ref r0), some (.ref r1), some (.int (iI s)), j3] [] n z G V Q) (PE := fun t s V => (t = 1 → ∀ j3 : Option Value, T X (1) 166 61 [some (.ref r0), some (.ref r1), some (.int (iI s)), j3] [] n z G V Q)) (fun s V V' q hb h0 h1 => fun _ => tb_X10_isHere_35 hr0 hr1  h0 (fun e => (h1 (by omega)) e) hb) fu x2 V V' q h k1 _

theorem tb_X10_isHere_76 {X : mX} {n z : Nat} {G : mG} {r0 r1 : Nat} (hr0 : is10 G r0) (hr1 : G.1 r1 = .inr (1, qG G r1)) {x3 : Int} {j2 : Option Value} {V V' : mV} {q : Nat × Int} {Q : Nat → Nat → mG → mV → Option Value → Prop} (h0 : q.1 = 0 → ∀ j2 : Option Value, T X (1) 166 76 [some (.ref r0), some (.ref r1), j2, some (.int (iI q.2))] [] n z G V' Q) (h1 : q.1 = 1 → ∀ j2 : Option Value, T X (1) 166 99 [some (.ref r0), some (.ref r1), j2, some (.int (iI q.2))] [] n z G V' Q) (h2 : q.1 = 2 → ∀ j2 : Option Value, T X (1) 166 107 [some (.ref r0), some (.ref r1), j2, some (.int (iI q.2))] [] n z G V' Q) (h : B_X10_isHere_76 G r0 r1 x3 V = some (V', q)) : T X (1) 166 76 [some (.ref r0), some (.ref r1), j2, some (.int (iI x3))] [] n z G V Q := by
  unfold B_X10_isHere_76 at h
  refine t_l fX10_isHere_76 rfl rfl rfl rfl ?_
  refine t_l fX10_isHere_77 rfl rfl rfl rfl ?_
  refine k9_len fX10_isHere_78 (hr1) (by decide) ?_
  obtain ⟨g33, h⟩ := gd_some h
  obtain ⟨g34, h⟩ := gd_some h
  refine k9_ic_ge fX10_isHere_79 rfl g33 g34 (fun c32 => ?_) (fun c32 => ?_)
  · replace h := ite_t (c32) h
    cases h
    exact h2 rfl _
  · replace h := ite_f (c32) h
    refine t_l fX10_isHere_82 rfl rfl rfl rfl ?_
    refine k9_gr fX10_isHere_83 (hr0).1 kg_10_0 (s10_0r hr0) ?_
    refine t_l fX10_isHere_86 rfl rfl rfl rfl ?_
    refine k9_gi fX10_isHere_87 (hr0).1 kg_10_2 ?_
    refine t_l fX10_isHere_90 rfl rfl rfl rfl ?_
    refine k9_iadd fX10_isHere_91 ?_
    obtain ⟨g35, h⟩ := gd_some h
    refine k9_ia fX10_isHere_92 (s10_0s hr0) g35.1 g35.2.1 g35.2.2 ?_
    refine t_l fX10_isHere_93 rfl rfl rfl rfl ?_
    refine t_l fX10_isHere_94 rfl rfl rfl rfl ?_
    obtain ⟨g36, h⟩ := gd_some h
    refine k9_ca fX10_isHere_95 (hr1) g36.1 g36.2.1 g36.2.2 ?_
    obtain ⟨g38, h⟩ := gd_some h
    obtain ⟨g39, h⟩ := gd_some h
    refine k9_ic_eq fX10_isHere_96 rfl g38 g39 (fun c37 => ?_) (fun c37 => ?_)
    · replace h := ite_t (c37) h
      replace h := lt_some h
      refine k9_iinc fX10_isHere_101 rfl (Nat.le_of_ble_eq_true rfl) rfl ?_
      refine k9_goto fX10_isHere_104 rfl ?_
      cases h
      exact h0 rfl _
    · replace h := ite_f (c37) h
      cases h
      exact h1 rfl _

theorem tl_X10_isHere_76 {X : mX} {n z : Nat} {G : mG} {r0 r1 : Nat} (hr0 : is10 G r0) (hr1 : G.1 r1 = .inr (1, qG G r1)) {x3 : Int} {j2 : Option Value} {V V' : mV} {fu : Nat} {q : Nat × Int} {Q : Nat → Nat → mG → mV → Option Value → Prop} (k1 : q.1 = 1 → ∀ j2 : Option Value, T X (1) 166 99 [some (.ref r0), some (.ref r1), j2, some (.int (iI q.2))] [] n z G V' Q) (k2 : q.1 = 2 → ∀ j2 : Option Value, T X (1) 166 107 [some (.ref r0), some (.ref r1), j2, some (.int (iI q.2))] [] n z G V' Q) (h : lp (fun (s : Int) V => B_X10_isHere_76 G r0 r1 s V) fu x3 V = some (V', q)) : T X (1) 166 76 [some (.ref r0), some (.ref r1), j2, some (.int (iI x3))] [] n z G V Q :=
  lp_go (P0 := fun s V => ∀ j2 : Option Value, T X (1) 166 76 [some (.ref r0), some (.ref r1), j2, some (.int (iI s))] [] n z G V Q) (PE := fun t s V => (t = 1 → ∀ j2 : Option Value, T X (1) 166 99 [some (.ref r0), some (.ref r1), j2, some (.int (iI s))] [] n z G V Q) ∧ (t = 2 → ∀ j2 : Option Value, T X (1) 166 107 [some (.ref r0), some (.ref r1), j2, some (.int (iI s))] [] n z G V Q)) (fun s V V' q hb h0 h1 => fun _ => tb_X10_isHere_76 hr0 hr1  h0 (fun e => (h1 (by omega)).1 e) (fun e => (h1 (by omega)).2 e) hb) fu x3 V V' q h ⟨k1, k2⟩ _

theorem tj_X10_isHere_J61 {X : mX} {n z : Nat} {G : mG} {r0 r1 : Nat} (hr0 : is10 G r0) (hr1 : G.1 r1 = .inr (1, qG G r1)) {x2 : Int} {j3 : Option Value} {V V' : mV} {v : Int} (h : F_X10_isHere_J61 G r0 r1 x2 V = some (V', v)) : T X (1) 166 61 [some (.ref r0), some (.ref r1), some (.int (iI x2)), j3] [] n z G V (qi n z G V' v) := by
  unfold F_X10_isHere_J61 at h
  refine t_l fX10_isHere_61 rfl rfl rfl rfl ?_
  refine t_l fX10_isHere_62 rfl rfl rfl rfl ?_
  refine k9_gi fX10_isHere_63 (hr0).1 kg_10_2 ?_
  refine k9_isub fX10_isHere_66 ?_
  refine t_l fX10_isHere_67 rfl rfl rfl rfl ?_
  refine k9_len fX10_isHere_68 (hr1) (by decide) ?_
  obtain ⟨g30, h⟩ := gd_some h
  obtain ⟨g31, h⟩ := gd_some h
  refine k9_ic_eq fX10_isHere_69 rfl g30 g31 (fun c29 => ?_) (fun c29 => ?_)
  · replace h := ite_t (c29) h
    refine t_s fX10_isHere_74 rfl rfl rfl ?_
    refine t_l fX10_isHere_75 rfl rfl rfl rfl ?_
    obtain ⟨V41, u42, e43, h⟩ := bd_some h
    refine tl_X10_isHere_76 hr0 hr1  (fun e44 j2 => ?_) (fun e44 j2 => ?_) e43
    · replace h := ite_t e44 h
      refine t_s fX10_isHere_99 rfl rfl rfl ?_
      refine t_ret fX10_isHere_100 (rX10_isHere _ (by decide)) ?_
      exact qf_i h
    · replace h := ite_f (by omega) h
      refine t_s fX10_isHere_107 rfl rfl rfl ?_
      refine t_ret fX10_isHere_108 (rX10_isHere _ (by decide)) ?_
      exact qf_i h
  · replace h := ite_f (c29) h
    refine t_s fX10_isHere_72 rfl rfl rfl ?_
    refine t_ret fX10_isHere_73 (rX10_isHere _ (by decide)) ?_
    exact qf_i h

theorem q_X10_isHere {X : mX} {n z : Nat} {G : mG} {r0 r1 : Nat} (hr0 : is10 G r0) (hr1 : G.1 r1 = .inr (1, qG G r1)) {V V' : mV} {v : Int} (h : F_X10_isHere G r0 r1 V = some (V', v)) : Rn X (1) 166 [.ref r0, .ref r1] n z G V n z G V' (some (.int (iI v))) := by
  refine qi_toR (v := v) (L := [some (.ref r0), some (.ref r1), none, none]) rfl ?_
  unfold F_X10_isHere at h
  refine t_l fX10_isHere_0 rfl rfl rfl rfl ?_
  refine k9_gi fX10_isHere_1 (hr0).1 kg_10_5 ?_
  obtain ⟨g2, h⟩ := gd_some h
  refine k9_if_ne fX10_isHere_4 rfl g2 (fun c1 => ?_) (fun c1 => ?_)
  · replace h := ite_f (c1) h
    refine t_s fX10_isHere_28 rfl rfl rfl ?_
    refine t_ret fX10_isHere_29 (rX10_isHere _ (by decide)) ?_
    exact qf_i h
  · replace h := ite_t (Classical.not_not.mp c1) h
    refine t_l fX10_isHere_7 rfl rfl rfl rfl ?_
    obtain ⟨V3, v4, e5, h⟩ := bd_some h
    refine kcX10_look fX10_isHere_8 (hr0).1 rfl (q_X10_look (hr0) e5) (by decide) ?_
    obtain ⟨V6, v7, e8, h⟩ := bd_some h
    refine kcX10_isLetter fX10_isHere_11 rfl (q_X10_isLetter  e8) (by decide) ?_
    obtain ⟨g10, h⟩ := gd_some h
    refine k9_if_eq fX10_isHere_14 rfl g10 (fun c9 => ?_) (fun c9 => ?_)
    · replace h := ite_t (c9) h
      refine t_s fX10_isHere_28 rfl rfl rfl ?_
      refine t_ret fX10_isHere_29 (rX10_isHere _ (by decide)) ?_
      exact qf_i h
    · replace h := ite_f (c9) h
      refine t_l fX10_isHere_17 rfl rfl rfl rfl ?_
      refine k9_gi fX10_isHere_18 (hr0).1 kg_10_2 ?_
      refine t_l fX10_isHere_21 rfl rfl rfl rfl ?_
      refine k9_gi fX10_isHere_22 (hr0).1 kg_10_4 ?_
      obtain ⟨g12, h⟩ := gd_some h
      obtain ⟨g13, h⟩ := gd_some h
      refine k9_ic_ne fX10_isHere_25 rfl g12 g13 (fun c11 => ?_) (fun c11 => ?_)
      · replace h := ite_f (c11) h
        refine t_l fX10_isHere_30 rfl rfl rfl rfl ?_
        refine k9_gi fX10_isHere_31 (hr0).1 kg_10_2 ?_
        replace h := lt_some h
        refine t_l fX10_isHere_34 rfl rfl rfl rfl ?_
        obtain ⟨V25, u26, e27, h⟩ := bd_some h
        refine tl_X10_isHere_35 hr0 hr1  (fun e28 j3 => ?_) e27
        exact tj_X10_isHere_J61 hr0 hr1   h
      · replace h := ite_t (Classical.not_not.mp c11) h
        refine t_s fX10_isHere_28 rfl rfl rfl ?_
        refine t_ret fX10_isHere_29 (rX10_isHere _ (by decide)) ?_
        exact qf_i h

theorem q_X10_takes {X : mX} {n z : Nat} {G : mG} {r0 r1 : Nat} (hr0 : is10 G r0) (hr1 : G.1 r1 = .inr (1, qG G r1)) {V V' : mV} {v : Int} (h : F_X10_takes G r0 r1 V = some (V', v)) : Rn X (2) 167 [.ref r0, .ref r1] n z G V n z G V' (some (.int (iI v))) := by
  refine qi_toR (v := v) (L := [some (.ref r0), some (.ref r1)]) rfl ?_
  unfold F_X10_takes at h
  refine t_l fX10_takes_0 rfl rfl rfl rfl ?_
  refine t_l fX10_takes_1 rfl rfl rfl rfl ?_
  obtain ⟨V1, v2, e3, h⟩ := bd_some h
  refine kcX10_isHere fX10_takes_2 (hr0).1 rfl rfl (q_X10_isHere (hr0) (qGf (hr1)) e3) (by decide) ?_
  obtain ⟨g5, h⟩ := gd_some h
  refine k9_if_ne fX10_takes_5 rfl g5 (fun c4 => ?_) (fun c4 => ?_)
  · replace h := ite_f (c4) h
    refine t_l fX10_takes_10 rfl rfl rfl rfl ?_
    refine t_s fX10_takes_11 rfl rfl rfl ?_
    refine k9_gi fX10_takes_12 (hr0).1 kg_10_2 ?_
    refine t_l fX10_takes_15 rfl rfl rfl rfl ?_
    refine k9_len fX10_takes_16 (hr1) (by decide) ?_
    refine k9_iadd fX10_takes_17 ?_
    refine k9_pi fX10_takes_18 (hr0).1 kp_10_2 ?_
    replace h := lt_some h
    refine t_l fX10_takes_21 rfl rfl rfl rfl ?_
    refine t_l fX10_takes_22 rfl rfl rfl rfl ?_
    refine k9_gi fX10_takes_23 (hr0).1 kg_10_2 ?_
    refine k9_pi fX10_takes_26 (hr0).1 kp_10_4 ?_
    replace h := lt_some h
    refine t_s fX10_takes_29 rfl rfl rfl ?_
    refine t_ret fX10_takes_30 (rX10_takes _ (by decide)) ?_
    exact qf_i h
  · replace h := ite_t (Classical.not_not.mp c4) h
    refine t_s fX10_takes_8 rfl rfl rfl ?_
    refine t_ret fX10_takes_9 (rX10_takes _ (by decide)) ?_
    exact qf_i h

theorem q_X10_asks {X : mX} {n z : Nat} {G : mG} {r0 r1 : Nat} (hr0 : is10 G r0) (hr1 : G.1 r1 = .inr (1, qG G r1)) {V V' : mV} {v : Int} (h : F_X10_asks G r0 r1 V = some (V', v)) : Rn X (3) 168 [.ref r0, .ref r1] n z G V n z G V' none := by
  refine qv_toR (v := v) (L := [some (.ref r0), some (.ref r1)]) rfl ?_
  unfold F_X10_asks at h
  refine t_l fX10_asks_0 rfl rfl rfl rfl ?_
  refine k9_gi fX10_asks_1 (hr0).1 kg_10_5 ?_
  obtain ⟨g2, h⟩ := gd_some h
  refine k9_if_ne fX10_asks_4 rfl g2 (fun c1 => ?_) (fun c1 => ?_)
  · replace h := ite_f (c1) h
    refine t_ret fX10_asks_24 rX10_asks ?_
    exact qf_v h
  · replace h := ite_t (Classical.not_not.mp c1) h
    refine t_l fX10_asks_7 rfl rfl rfl rfl ?_
    refine t_l fX10_asks_8 rfl rfl rfl rfl ?_
    obtain ⟨V3, v4, e5, h⟩ := bd_some h
    refine kcX10_takes fX10_asks_9 (hr0).1 rfl rfl (q_X10_takes (hr0) (qGf (hr1)) e5) (by decide) ?_
    obtain ⟨g7, h⟩ := gd_some h
    refine k9_if_ne fX10_asks_12 rfl g7 (fun c6 => ?_) (fun c6 => ?_)
    · replace h := ite_f (c6) h
      refine t_ret fX10_asks_24 rX10_asks ?_
      exact qf_v h
    · replace h := ite_t (Classical.not_not.mp c6) h
      refine t_l fX10_asks_15 rfl rfl rfl rfl ?_
      refine t_s fX10_asks_16 rfl rfl rfl ?_
      refine t_l fX10_asks_17 rfl rfl rfl rfl ?_
      refine k9_gi fX10_asks_18 (hr0).1 kg_10_2 ?_
      obtain ⟨V8, v9, e10, h⟩ := bd_some h
      refine kcX10_fail fX10_asks_21 (hr0).1 rfl (q_X10_fail (hr0) e10) (by decide) ?_
      refine t_ret fX10_asks_24 rX10_asks ?_
      exact qf_v h

theorem q_X10_takesSign {X : mX} {n z : Nat} {G : mG} {r0 : Nat} (hr0 : is10 G r0) {x1 : Int} {V V' : mV} {v : Int} (h : F_X10_takesSign G r0 x1 V = some (V', v)) : Rn X (1) 169 [.ref r0, .int (iI x1)] n z G V n z G V' (some (.int (iI v))) := by
  refine qi_toR (v := v) (L := [some (.ref r0), some (.int (iI x1))]) rfl ?_
  unfold F_X10_takesSign at h
  refine t_l fX10_takesSign_0 rfl rfl rfl rfl ?_
  refine k9_gi fX10_takesSign_1 (hr0).1 kg_10_5 ?_
  obtain ⟨g2, h⟩ := gd_some h
  refine k9_if_ne fX10_takesSign_4 rfl g2 (fun c1 => ?_) (fun c1 => ?_)
  · replace h := ite_f (c1) h
    refine t_s fX10_takesSign_15 rfl rfl rfl ?_
    refine t_ret fX10_takesSign_16 (rX10_takesSign _ (by decide)) ?_
    exact qf_i h
  · replace h := ite_t (Classical.not_not.mp c1) h
    refine t_l fX10_takesSign_7 rfl rfl rfl rfl ?_
    obtain ⟨V3, v4, e5, h⟩ := bd_some h
    refine kcX10_look fX10_takesSign_8 (hr0).1 rfl (q_X10_look (hr0) e5) (by decide) ?_
    refine t_l fX10_takesSign_11 rfl rfl rfl rfl ?_
    obtain ⟨g7, h⟩ := gd_some h
    obtain ⟨g8, h⟩ := gd_some h
    refine k9_ic_eq fX10_takesSign_12 rfl g7 g8 (fun c6 => ?_) (fun c6 => ?_)
    · replace h := ite_t (c6) h
      refine t_l fX10_takesSign_17 rfl rfl rfl rfl ?_
      refine t_s fX10_takesSign_18 rfl rfl rfl ?_
      refine k9_gi fX10_takesSign_19 (hr0).1 kg_10_2 ?_
      refine t_s fX10_takesSign_22 rfl rfl rfl ?_
      refine k9_iadd fX10_takesSign_23 ?_
      refine k9_pi fX10_takesSign_24 (hr0).1 kp_10_2 ?_
      replace h := lt_some h
      refine t_s fX10_takesSign_27 rfl rfl rfl ?_
      refine t_ret fX10_takesSign_28 (rX10_takesSign _ (by decide)) ?_
      exact qf_i h
    · replace h := ite_f (c6) h
      refine t_s fX10_takesSign_15 rfl rfl rfl ?_
      refine t_ret fX10_takesSign_16 (rX10_takesSign _ (by decide)) ?_
      exact qf_i h

theorem q_X10_asksSign {X : mX} {n z : Nat} {G : mG} {r0 : Nat} (hr0 : is10 G r0) {x1 : Int} {V V' : mV} {v : Int} (h : F_X10_asksSign G r0 x1 V = some (V', v)) : Rn X (2) 170 [.ref r0, .int (iI x1)] n z G V n z G V' none := by
  refine qv_toR (v := v) (L := [some (.ref r0), some (.int (iI x1))]) rfl ?_
  unfold F_X10_asksSign at h
  refine t_l fX10_asksSign_0 rfl rfl rfl rfl ?_
  refine k9_gi fX10_asksSign_1 (hr0).1 kg_10_5 ?_
  obtain ⟨g2, h⟩ := gd_some h
  refine k9_if_ne fX10_asksSign_4 rfl g2 (fun c1 => ?_) (fun c1 => ?_)
  · replace h := ite_f (c1) h
    refine t_ret fX10_asksSign_24 rX10_asksSign ?_
    exact qf_v h
  · replace h := ite_t (Classical.not_not.mp c1) h
    refine t_l fX10_asksSign_7 rfl rfl rfl rfl ?_
    refine t_l fX10_asksSign_8 rfl rfl rfl rfl ?_
    obtain ⟨V3, v4, e5, h⟩ := bd_some h
    refine kcX10_takesSign fX10_asksSign_9 (hr0).1 rfl (q_X10_takesSign (hr0) e5) (by decide) ?_
    obtain ⟨g7, h⟩ := gd_some h
    refine k9_if_ne fX10_asksSign_12 rfl g7 (fun c6 => ?_) (fun c6 => ?_)
    · replace h := ite_f (c6) h
      refine t_ret fX10_asksSign_24 rX10_asksSign ?_
      exact qf_v h
    · replace h := ite_t (Classical.not_not.mp c6) h
      refine t_l fX10_asksSign_15 rfl rfl rfl rfl ?_
      refine t_s fX10_asksSign_16 rfl rfl rfl ?_
      refine t_l fX10_asksSign_17 rfl rfl rfl rfl ?_
      refine k9_gi fX10_asksSign_18 (hr0).1 kg_10_2 ?_
      obtain ⟨V8, v9, e10, h⟩ := bd_some h
      refine kcX10_fail fX10_asksSign_21 (hr0).1 rfl (q_X10_fail (hr0) e10) (by decide) ?_
      refine t_ret fX10_asksSign_24 rX10_asksSign ?_
      exact qf_v h

theorem tj_X10_number_J30 {X : mX} {n z : Nat} {G : mG} {r0 : Nat} (hr0 : is10 G r0) {x1 x2 : Int} {j3 j4 : Option Value} {V V' : mV} {v : Int} (h : F_X10_number_J30 G r0 x1 x2 V = some (V', v)) : T X (1) 171 30 [some (.ref r0), some (.int (iI x1)), some (.int (iI x2)), j3, j4] [] n z G V (qi n z G V' v) := by
  unfold F_X10_number_J30 at h
  refine t_l fX10_number_30 rfl rfl rfl rfl ?_
  refine t_s fX10_number_31 rfl rfl rfl ?_
  refine t_l fX10_number_32 rfl rfl rfl rfl ?_
  refine k9_gi fX10_number_33 (hr0).1 kg_10_2 ?_
  obtain ⟨V11, v12, e13, h⟩ := bd_some h
  refine kcX10_fail fX10_number_36 (hr0).1 rfl (q_X10_fail (hr0) e13) (by decide) ?_
  refine t_s fX10_number_39 rfl rfl rfl ?_
  refine t_ret fX10_number_40 rX10_number ?_
  exact qf_i h

theorem tb_X10_number_49 {X : mX} {n z : Nat} {G : mG} {r0 : Nat} (hr0 : is10 G r0) {x1 x2 x3 x4 : Int} {V V' : mV} {q : Nat × Int} {Q : Nat → Nat → mG → mV → Option Value → Prop} (h0 : q.1 = 0 → T X (1) 171 49 [some (.ref r0), some (.int (iI x1)), some (.int (iI x2)), some (.int (iI x3)), some (.int (iI q.2))] [] n z G V' Q) (h1 : q.1 = 1 → T X (1) 171 85 [some (.ref r0), some (.int (iI x1)), some (.int (iI x2)), some (.int (iI x3)), some (.int (iI q.2))] [] n z G V' Q) (h2 : q.1 = 2 → T X (1) 171 129 [some (.ref r0), some (.int (iI x1)), some (.int (iI x2)), some (.int (iI x3)), some (.int (iI q.2))] [] n z G V' Q) (h : B_X10_number_49 G r0 x1 x2 x3 x4 V = some (V', q)) : T X (1) 171 49 [some (.ref r0), some (.int (iI x1)), some (.int (iI x2)), some (.int (iI x3)), some (.int (iI x4))] [] n z G V Q := by
  unfold B_X10_number_49 at h
  refine t_l fX10_number_49 rfl rfl rfl rfl ?_
  refine k9_gi fX10_number_50 (hr0).1 kg_10_2 ?_
  refine t_l fX10_number_53 rfl rfl rfl rfl ?_
  refine k9_gi fX10_number_54 (hr0).1 kg_10_3 ?_
  obtain ⟨g19, h⟩ := gd_some h
  obtain ⟨g20, h⟩ := gd_some h
  refine k9_ic_ge fX10_number_57 rfl g19 g20 (fun c18 => ?_) (fun c18 => ?_)
  · replace h := ite_t (c18) h
    cases h
    exact h2 rfl
  · replace h := ite_f (c18) h
    refine t_l fX10_number_60 rfl rfl rfl rfl ?_
    refine k9_gr fX10_number_61 (hr0).1 kg_10_0 (s10_0r hr0) ?_
    refine t_l fX10_number_64 rfl rfl rfl rfl ?_
    refine k9_gi fX10_number_65 (hr0).1 kg_10_2 ?_
    obtain ⟨g21, h⟩ := gd_some h
    refine k9_ia fX10_number_68 (s10_0s hr0) g21.1 g21.2.1 g21.2.2 ?_
    obtain ⟨V22, v23, e24, h⟩ := bd_some h
    refine kcX10_isDigit fX10_number_69 rfl (q_X10_isDigit  e24) (by decide) ?_
    obtain ⟨g26, h⟩ := gd_some h
    refine k9_if_eq fX10_number_72 rfl g26 (fun c25 => ?_) (fun c25 => ?_)
    · replace h := ite_t (c25) h
      cases h
      exact h2 rfl
    · replace h := ite_f (c25) h
      refine t_l fX10_number_75 rfl rfl rfl rfl ?_
      refine k9_gi fX10_number_76 (hr0).1 kg_10_2 ?_
      refine t_l fX10_number_79 rfl rfl rfl rfl ?_
      refine k9_isub fX10_number_80 ?_
      refine t_s fX10_number_81 rfl rfl rfl ?_
      obtain ⟨g28, h⟩ := gd_some h
      refine k9_ic_ne fX10_number_82 rfl g28 ⟨by decide, by decide⟩ (fun c27 => ?_) (fun c27 => ?_)
      · replace h := ite_f (c27) h
        refine t_s fX10_number_96 rfl rfl rfl ?_
        refine t_l fX10_number_98 rfl rfl rfl rfl ?_
        refine k9_imul fX10_number_100 ?_
        refine t_l fX10_number_101 rfl rfl rfl rfl ?_
        refine k9_gr fX10_number_102 (hr0).1 kg_10_0 (s10_0r hr0) ?_
        refine t_l fX10_number_105 rfl rfl rfl rfl ?_
        refine k9_gi fX10_number_106 (hr0).1 kg_10_2 ?_
        obtain ⟨g29, h⟩ := gd_some h
        refine k9_ia fX10_number_109 (s10_0s hr0) g29.1 g29.2.1 g29.2.2 ?_
        refine k9_iadd fX10_number_110 ?_
        refine t_s fX10_number_111 rfl rfl rfl ?_
        refine k9_isub fX10_number_113 ?_
        replace h := lt_some h
        refine t_l fX10_number_114 rfl rfl rfl rfl ?_
        refine t_l fX10_number_116 rfl rfl rfl rfl ?_
        refine t_s fX10_number_117 rfl rfl rfl ?_
        refine k9_gi fX10_number_118 (hr0).1 kg_10_2 ?_
        refine t_s fX10_number_121 rfl rfl rfl ?_
        refine k9_iadd fX10_number_122 ?_
        refine k9_pi fX10_number_123 (hr0).1 kp_10_2 ?_
        replace h := lt_some h
        refine k9_goto fX10_number_126 rfl ?_
        cases h
        exact h0 rfl
      · replace h := ite_t (Classical.not_not.mp c27) h
        cases h
        exact h1 rfl

theorem tl_X10_number_49 {X : mX} {n z : Nat} {G : mG} {r0 : Nat} (hr0 : is10 G r0) {x1 x2 x3 x4 : Int} {V V' : mV} {fu : Nat} {q : Nat × Int} {Q : Nat → Nat → mG → mV → Option Value → Prop} (k1 : q.1 = 1 → T X (1) 171 85 [some (.ref r0), some (.int (iI x1)), some (.int (iI x2)), some (.int (iI x3)), some (.int (iI q.2))] [] n z G V' Q) (k2 : q.1 = 2 → T X (1) 171 129 [some (.ref r0), some (.int (iI x1)), some (.int (iI x2)), some (.int (iI x3)), some (.int (iI q.2))] [] n z G V' Q) (h : lp (fun (s : Int) V => B_X10_number_49 G r0 x1 x2 x3 s V) fu x4 V = some (V', q)) : T X (1) 171 49 [some (.ref r0), some (.int (iI x1)), some (.int (iI x2)), some (.int (iI x3)), some (.int (iI x4))] [] n z G V Q :=
  lp_go (P0 := fun s V => T X (1) 171 49 [some (.ref r0), some (.int (iI x1)), some (.int (iI x2)), some (.int (iI x3)), some (.int (iI s))] [] n z G V Q) (PE := fun t s V => (t = 1 → T X (1) 171 85 [some (.ref r0), some (.int (iI x1)), some (.int (iI x2)), some (.int (iI x3)), some (.int (iI s))] [] n z G V Q) ∧ (t = 2 → T X (1) 171 129 [some (.ref r0), some (.int (iI x1)), some (.int (iI x2)), some (.int (iI x3)), some (.int (iI s))] [] n z G V Q)) (fun s V V' q hb h0 h1 => tb_X10_number_49 hr0  h0 (fun e => (h1 (by omega)).1 e) (fun e => (h1 (by omega)).2 e) hb) fu x4 V V' q h ⟨k1, k2⟩

theorem tj_X10_number_J129 {X : mX} {n z : Nat} {G : mG} {r0 : Nat} (hr0 : is10 G r0) {x1 x2 x3 x4 : Int} {V V' : mV} {v : Int} (h : F_X10_number_J129 G r0 x1 x2 x3 x4 V = some (V', v)) : T X (1) 171 129 [some (.ref r0), some (.int (iI x1)), some (.int (iI x2)), some (.int (iI x3)), some (.int (iI x4))] [] n z G V (qi n z G V' v) := by
  unfold F_X10_number_J129 at h
  refine t_l fX10_number_129 rfl rfl rfl rfl ?_
  refine t_l fX10_number_130 rfl rfl rfl rfl ?_
  refine k9_gi fX10_number_131 (hr0).1 kg_10_2 ?_
  refine k9_pi fX10_number_134 (hr0).1 kp_10_4 ?_
  replace h := lt_some h
  refine t_l fX10_number_137 rfl rfl rfl rfl ?_
  refine t_l fX10_number_138 rfl rfl rfl rfl ?_
  refine k9_pi fX10_number_139 (hr0).1 kp_10_10 ?_
  replace h := lt_some h
  refine t_l fX10_number_142 rfl rfl rfl rfl ?_
  obtain ⟨g41, h⟩ := gd_some h
  refine k9_i2l fX10_number_144 g41 ?_
  refine t_l fX10_number_145 rfl rfl rfl rfl ?_
  obtain ⟨g42, h⟩ := gd_some h
  refine k9_i2l fX10_number_146 g42 ?_
  refine t_l fX10_number_147 rfl rfl rfl rfl ?_
  obtain ⟨g43, h⟩ := gd_some h
  refine k9_i2l fX10_number_148 g43 ?_
  obtain ⟨V44, v45, e46, h⟩ := bd_some h
  refine kcX10_isIn fX10_number_149 rfl (q_X10_isIn  e46) (by decide) ?_
  obtain ⟨g48, h⟩ := gd_some h
  refine k9_if_ne fX10_number_152 rfl g48 (fun c47 => ?_) (fun c47 => ?_)
  · replace h := ite_f (c47) h
    refine t_l fX10_number_161 rfl rfl rfl rfl ?_
    refine t_ret fX10_number_163 rX10_number ?_
    exact qf_i h
  · replace h := ite_t (Classical.not_not.mp c47) h
    refine t_l fX10_number_155 rfl rfl rfl rfl ?_
    refine t_s fX10_number_156 rfl rfl rfl ?_
    refine t_l fX10_number_157 rfl rfl rfl rfl ?_
    obtain ⟨V49, v50, e51, h⟩ := bd_some h
    refine kcX10_fail fX10_number_158 (hr0).1 rfl (q_X10_fail (hr0) e51) (by decide) ?_
    refine t_l fX10_number_161 rfl rfl rfl rfl ?_
    refine t_ret fX10_number_163 rX10_number ?_
    exact qf_i h

theorem q_X10_number {X : mX} {n z : Nat} {G : mG} {r0 : Nat} (hr0 : is10 G r0) {x1 x2 : Int} {V V' : mV} {v : Int} (h : F_X10_number G r0 x1 x2 V = some (V', v)) : Rn X (1) 171 [.ref r0, .int (iI x1), .int (iI x2)] n z G V n z G V' (some (.int (iI v))) := by
  refine qi_toR (v := v) (L := [some (.ref r0), some (.int (iI x1)), some (.int (iI x2)), none, none]) rfl ?_
  unfold F_X10_number at h
  refine t_l fX10_number_0 rfl rfl rfl rfl ?_
  refine k9_gi fX10_number_1 (hr0).1 kg_10_5 ?_
  obtain ⟨g2, h⟩ := gd_some h
  refine k9_if_eq fX10_number_4 rfl g2 (fun c1 => ?_) (fun c1 => ?_)
  · replace h := ite_t (c1) h
    refine t_l fX10_number_9 rfl rfl rfl rfl ?_
    obtain ⟨V3, v4, e5, h⟩ := bd_some h
    refine kcX10_look fX10_number_10 (hr0).1 rfl (q_X10_look (hr0) e5) (by decide) ?_
    obtain ⟨V6, v7, e8, h⟩ := bd_some h
    refine kcX10_isDigit fX10_number_13 rfl (q_X10_isDigit  e8) (by decide) ?_
    obtain ⟨g10, h⟩ := gd_some h
    refine k9_if_eq fX10_number_16 rfl g10 (fun c9 => ?_) (fun c9 => ?_)
    · replace h := ite_t (c9) h
      exact tj_X10_number_J30 hr0   h
    · replace h := ite_f (c9) h
      refine t_l fX10_number_19 rfl rfl rfl rfl ?_
      refine k9_gi fX10_number_20 (hr0).1 kg_10_2 ?_
      refine t_l fX10_number_23 rfl rfl rfl rfl ?_
      refine k9_gi fX10_number_24 (hr0).1 kg_10_4 ?_
      obtain ⟨g15, h⟩ := gd_some h
      obtain ⟨g16, h⟩ := gd_some h
      refine k9_ic_ne fX10_number_27 rfl g15 g16 (fun c14 => ?_) (fun c14 => ?_)
      · replace h := ite_f (c14) h
        refine t_l fX10_number_41 rfl rfl rfl rfl ?_
        refine k9_gi fX10_number_42 (hr0).1 kg_10_2 ?_
        replace h := lt_some h
        refine t_l fX10_number_45 rfl rfl rfl rfl ?_
        refine t_s fX10_number_46 rfl rfl rfl ?_
        refine t_l fX10_number_47 rfl rfl rfl rfl ?_
        obtain ⟨V32, u33, e34, h⟩ := bd_some h
        refine tl_X10_number_49 hr0  (fun e35 => ?_) (fun e35 => ?_) e34
        · replace h := ite_t e35 h
          refine t_l fX10_number_85 rfl rfl rfl rfl ?_
          refine t_s fX10_number_86 rfl rfl rfl ?_
          refine t_l fX10_number_87 rfl rfl rfl rfl ?_
          refine k9_gi fX10_number_88 (hr0).1 kg_10_2 ?_
          obtain ⟨V36, v37, e38, h⟩ := bd_some h
          refine kcX10_fail fX10_number_91 (hr0).1 rfl (q_X10_fail (hr0) e38) (by decide) ?_
          refine t_s fX10_number_94 rfl rfl rfl ?_
          refine t_ret fX10_number_95 rX10_number ?_
          exact qf_i h
        · replace h := ite_f (by omega) h
          exact tj_X10_number_J129 hr0   h
      · replace h := ite_t (Classical.not_not.mp c14) h
        exact tj_X10_number_J30 hr0   h
  · replace h := ite_f (c1) h
    refine t_s fX10_number_7 rfl rfl rfl ?_
    refine t_ret fX10_number_8 rX10_number ?_
    exact qf_i h

theorem tj_X10_isOwnHere_J223 {X : mX} {n z : Nat} {G : mG} {r0 : Nat} (hr0 : is10 G r0) {s0 : Int} {j1 : Option Value} {V V' : mV} {v : Int} (h : F_X10_isOwnHere_J223 G r0 s0 V = some (V', v)) : T X (2) 172 223 [some (.ref r0), j1] [.int (iI s0)] n z G V (qi n z G V' v) := by
  unfold F_X10_isOwnHere_J223 at h
  refine t_l fX10_isOwnHere_223 rfl rfl rfl rfl ?_
  refine t_l fX10_isOwnHere_224 rfl rfl rfl rfl ?_
  obtain ⟨g11, h⟩ := gd_some h
  refine k9_if_ne fX10_isOwnHere_225 rfl g11 (fun c10 => ?_) (fun c10 => ?_)
  · replace h := ite_f (c10) h
    refine t_s fX10_isOwnHere_294 rfl rfl rfl ?_
    refine k9_goto fX10_isOwnHere_295 rfl ?_
    refine t_l fX10_isOwnHere_299 rfl rfl rfl rfl ?_
    refine t_l fX10_isOwnHere_300 rfl rfl rfl rfl ?_
    refine t_ret fX10_isOwnHere_301 (rX10_isOwnHere _ (by decide)) ?_
    exact qf_i h
  · replace h := ite_t (Classical.not_not.mp c10) h
    refine t_l fX10_isOwnHere_228 rfl rfl rfl rfl ?_
    refine t_l fX10_isOwnHere_229 rfl rfl rfl rfl ?_
    refine k9_gr fX10_isOwnHere_230 (hr0).1 kg_10_29 (s10_29r hr0) ?_
    obtain ⟨V12, v13, e14, h⟩ := bd_some h
    refine kcX10_isHere fX10_isOwnHere_233 (hr0).1 rfl rfl (q_X10_isHere (hr0) (qGf (s10_29s hr0)) e14) (by decide) ?_
    obtain ⟨g16, h⟩ := gd_some h
    refine k9_if_ne fX10_isOwnHere_236 rfl g16 (fun c15 => ?_) (fun c15 => ?_)
    · replace h := ite_f (c15) h
      refine t_s fX10_isOwnHere_294 rfl rfl rfl ?_
      refine k9_goto fX10_isOwnHere_295 rfl ?_
      refine t_l fX10_isOwnHere_299 rfl rfl rfl rfl ?_
      refine t_l fX10_isOwnHere_300 rfl rfl rfl rfl ?_
      refine t_ret fX10_isOwnHere_301 (rX10_isOwnHere _ (by decide)) ?_
      exact qf_i h
    · replace h := ite_t (Classical.not_not.mp c15) h
      refine t_l fX10_isOwnHere_239 rfl rfl rfl rfl ?_
      refine t_l fX10_isOwnHere_240 rfl rfl rfl rfl ?_
      refine k9_gr fX10_isOwnHere_241 (hr0).1 kg_10_30 (s10_30r hr0) ?_
      obtain ⟨V17, v18, e19, h⟩ := bd_some h
      refine kcX10_isHere fX10_isOwnHere_244 (hr0).1 rfl rfl (q_X10_isHere (hr0) (qGf (s10_30s hr0)) e19) (by decide) ?_
      obtain ⟨g21, h⟩ := gd_some h
      refine k9_if_ne fX10_isOwnHere_247 rfl g21 (fun c20 => ?_) (fun c20 => ?_)
      · replace h := ite_f (c20) h
        refine t_s fX10_isOwnHere_294 rfl rfl rfl ?_
        refine k9_goto fX10_isOwnHere_295 rfl ?_
        refine t_l fX10_isOwnHere_299 rfl rfl rfl rfl ?_
        refine t_l fX10_isOwnHere_300 rfl rfl rfl rfl ?_
        refine t_ret fX10_isOwnHere_301 (rX10_isOwnHere _ (by decide)) ?_
        exact qf_i h
      · replace h := ite_t (Classical.not_not.mp c20) h
        refine t_l fX10_isOwnHere_250 rfl rfl rfl rfl ?_
        refine t_l fX10_isOwnHere_251 rfl rfl rfl rfl ?_
        refine k9_gr fX10_isOwnHere_252 (hr0).1 kg_10_31 (s10_31r hr0) ?_
        obtain ⟨V22, v23, e24, h⟩ := bd_some h
        refine kcX10_isHere fX10_isOwnHere_255 (hr0).1 rfl rfl (q_X10_isHere (hr0) (qGf (s10_31s hr0)) e24) (by decide) ?_
        obtain ⟨g26, h⟩ := gd_some h
        refine k9_if_ne fX10_isOwnHere_258 rfl g26 (fun c25 => ?_) (fun c25 => ?_)
        · replace h := ite_f (c25) h
          refine t_s fX10_isOwnHere_294 rfl rfl rfl ?_
          refine k9_goto fX10_isOwnHere_295 rfl ?_
          refine t_l fX10_isOwnHere_299 rfl rfl rfl rfl ?_
          refine t_l fX10_isOwnHere_300 rfl rfl rfl rfl ?_
          refine t_ret fX10_isOwnHere_301 (rX10_isOwnHere _ (by decide)) ?_
          exact qf_i h
        · replace h := ite_t (Classical.not_not.mp c25) h
          refine t_l fX10_isOwnHere_261 rfl rfl rfl rfl ?_
          refine t_l fX10_isOwnHere_262 rfl rfl rfl rfl ?_
          refine k9_gr fX10_isOwnHere_263 (hr0).1 kg_10_32 (s10_32r hr0) ?_
          obtain ⟨V27, v28, e29, h⟩ := bd_some h
          refine kcX10_isHere fX10_isOwnHere_266 (hr0).1 rfl rfl (q_X10_isHere (hr0) (qGf (s10_32s hr0)) e29) (by decide) ?_
          obtain ⟨g31, h⟩ := gd_some h
          refine k9_if_ne fX10_isOwnHere_269 rfl g31 (fun c30 => ?_) (fun c30 => ?_)
          · replace h := ite_f (c30) h
            refine t_s fX10_isOwnHere_294 rfl rfl rfl ?_
            refine k9_goto fX10_isOwnHere_295 rfl ?_
            refine t_l fX10_isOwnHere_299 rfl rfl rfl rfl ?_
            refine t_l fX10_isOwnHere_300 rfl rfl rfl rfl ?_
            refine t_ret fX10_isOwnHere_301 (rX10_isOwnHere _ (by decide)) ?_
            exact qf_i h
          · replace h := ite_t (Classical.not_not.mp c30) h
            refine t_l fX10_isOwnHere_272 rfl rfl rfl rfl ?_
            refine t_l fX10_isOwnHere_273 rfl rfl rfl rfl ?_
            refine k9_gr fX10_isOwnHere_274 (hr0).1 kg_10_33 (s10_33r hr0) ?_
            obtain ⟨V32, v33, e34, h⟩ := bd_some h
            refine kcX10_isHere fX10_isOwnHere_277 (hr0).1 rfl rfl (q_X10_isHere (hr0) (qGf (s10_33s hr0)) e34) (by decide) ?_
            obtain ⟨g36, h⟩ := gd_some h
            refine k9_if_ne fX10_isOwnHere_280 rfl g36 (fun c35 => ?_) (fun c35 => ?_)
            · replace h := ite_f (c35) h
              refine t_s fX10_isOwnHere_294 rfl rfl rfl ?_
              refine k9_goto fX10_isOwnHere_295 rfl ?_
              refine t_l fX10_isOwnHere_299 rfl rfl rfl rfl ?_
              refine t_l fX10_isOwnHere_300 rfl rfl rfl rfl ?_
              refine t_ret fX10_isOwnHere_301 (rX10_isOwnHere _ (by decide)) ?_
              exact qf_i h
            · replace h := ite_t (Classical.not_not.mp c35) h
              refine t_l fX10_isOwnHere_283 rfl rfl rfl rfl ?_
              refine t_l fX10_isOwnHere_284 rfl rfl rfl rfl ?_
              refine k9_gr fX10_isOwnHere_285 (hr0).1 kg_10_34 (s10_34r hr0) ?_
              obtain ⟨V37, v38, e39, h⟩ := bd_some h
              refine kcX10_isHere fX10_isOwnHere_288 (hr0).1 rfl rfl (q_X10_isHere (hr0) (qGf (s10_34s hr0)) e39) (by decide) ?_
              obtain ⟨g41, h⟩ := gd_some h
              refine k9_if_eq fX10_isOwnHere_291 rfl g41 (fun c40 => ?_) (fun c40 => ?_)
              · replace h := ite_t (c40) h
                refine t_s fX10_isOwnHere_298 rfl rfl rfl ?_
                refine t_l fX10_isOwnHere_299 rfl rfl rfl rfl ?_
                refine t_l fX10_isOwnHere_300 rfl rfl rfl rfl ?_
                refine t_ret fX10_isOwnHere_301 (rX10_isOwnHere _ (by decide)) ?_
                exact qf_i h
              · replace h := ite_f (c40) h
                refine t_s fX10_isOwnHere_294 rfl rfl rfl ?_
                refine k9_goto fX10_isOwnHere_295 rfl ?_
                refine t_l fX10_isOwnHere_299 rfl rfl rfl rfl ?_
                refine t_l fX10_isOwnHere_300 rfl rfl rfl rfl ?_
                refine t_ret fX10_isOwnHere_301 (rX10_isOwnHere _ (by decide)) ?_
                exact qf_i h

theorem tj_X10_isOwnHere_J218 {X : mX} {n z : Nat} {G : mG} {r0 : Nat} (hr0 : is10 G r0) {j1 : Option Value} {V V' : mV} {v : Int} (h : F_X10_isOwnHere_J218 G r0 V = some (V', v)) : T X (2) 172 218 [some (.ref r0), j1] [] n z G V (qi n z G V' v) := by
  unfold F_X10_isOwnHere_J218 at h
  refine t_s fX10_isOwnHere_218 rfl rfl rfl ?_
  refine k9_goto fX10_isOwnHere_219 rfl ?_
  exact tj_X10_isOwnHere_J223 hr0   h

theorem tj_X10_isOwnHere_J147 {X : mX} {n z : Nat} {G : mG} {r0 : Nat} (hr0 : is10 G r0) {s0 : Int} {j1 : Option Value} {V V' : mV} {v : Int} (h : F_X10_isOwnHere_J147 G r0 s0 V = some (V', v)) : T X (2) 172 147 [some (.ref r0), j1] [.int (iI s0)] n z G V (qi n z G V' v) := by
  unfold F_X10_isOwnHere_J147 at h
  refine t_l fX10_isOwnHere_147 rfl rfl rfl rfl ?_
  refine t_l fX10_isOwnHere_148 rfl rfl rfl rfl ?_
  obtain ⟨g9, h⟩ := gd_some h
  refine k9_if_ne fX10_isOwnHere_149 rfl g9 (fun c8 => ?_) (fun c8 => ?_)
  · replace h := ite_f (c8) h
    exact tj_X10_isOwnHere_J218 hr0   h
  · replace h := ite_t (Classical.not_not.mp c8) h
    refine t_l fX10_isOwnHere_152 rfl rfl rfl rfl ?_
    refine t_l fX10_isOwnHere_153 rfl rfl rfl rfl ?_
    refine k9_gr fX10_isOwnHere_154 (hr0).1 kg_10_23 (s10_23r hr0) ?_
    obtain ⟨V42, v43, e44, h⟩ := bd_some h
    refine kcX10_isHere fX10_isOwnHere_157 (hr0).1 rfl rfl (q_X10_isHere (hr0) (qGf (s10_23s hr0)) e44) (by decide) ?_
    obtain ⟨g46, h⟩ := gd_some h
    refine k9_if_ne fX10_isOwnHere_160 rfl g46 (fun c45 => ?_) (fun c45 => ?_)
    · replace h := ite_f (c45) h
      exact tj_X10_isOwnHere_J218 hr0   h
    · replace h := ite_t (Classical.not_not.mp c45) h
      refine t_l fX10_isOwnHere_163 rfl rfl rfl rfl ?_
      refine t_l fX10_isOwnHere_164 rfl rfl rfl rfl ?_
      refine k9_gr fX10_isOwnHere_165 (hr0).1 kg_10_24 (s10_24r hr0) ?_
      obtain ⟨V47, v48, e49, h⟩ := bd_some h
      refine kcX10_isHere fX10_isOwnHere_168 (hr0).1 rfl rfl (q_X10_isHere (hr0) (qGf (s10_24s hr0)) e49) (by decide) ?_
      obtain ⟨g51, h⟩ := gd_some h
      refine k9_if_ne fX10_isOwnHere_171 rfl g51 (fun c50 => ?_) (fun c50 => ?_)
      · replace h := ite_f (c50) h
        exact tj_X10_isOwnHere_J218 hr0   h
      · replace h := ite_t (Classical.not_not.mp c50) h
        refine t_l fX10_isOwnHere_174 rfl rfl rfl rfl ?_
        refine t_l fX10_isOwnHere_175 rfl rfl rfl rfl ?_
        refine k9_gr fX10_isOwnHere_176 (hr0).1 kg_10_25 (s10_25r hr0) ?_
        obtain ⟨V52, v53, e54, h⟩ := bd_some h
        refine kcX10_isHere fX10_isOwnHere_179 (hr0).1 rfl rfl (q_X10_isHere (hr0) (qGf (s10_25s hr0)) e54) (by decide) ?_
        obtain ⟨g56, h⟩ := gd_some h
        refine k9_if_ne fX10_isOwnHere_182 rfl g56 (fun c55 => ?_) (fun c55 => ?_)
        · replace h := ite_f (c55) h
          exact tj_X10_isOwnHere_J218 hr0   h
        · replace h := ite_t (Classical.not_not.mp c55) h
          refine t_l fX10_isOwnHere_185 rfl rfl rfl rfl ?_
          refine t_l fX10_isOwnHere_186 rfl rfl rfl rfl ?_
          refine k9_gr fX10_isOwnHere_187 (hr0).1 kg_10_26 (s10_26r hr0) ?_
          obtain ⟨V57, v58, e59, h⟩ := bd_some h
          refine kcX10_isHere fX10_isOwnHere_190 (hr0).1 rfl rfl (q_X10_isHere (hr0) (qGf (s10_26s hr0)) e59) (by decide) ?_
          obtain ⟨g61, h⟩ := gd_some h
          refine k9_if_ne fX10_isOwnHere_193 rfl g61 (fun c60 => ?_) (fun c60 => ?_)
          · replace h := ite_f (c60) h
            exact tj_X10_isOwnHere_J218 hr0   h
          · replace h := ite_t (Classical.not_not.mp c60) h
            refine t_l fX10_isOwnHere_196 rfl rfl rfl rfl ?_
            refine t_l fX10_isOwnHere_197 rfl rfl rfl rfl ?_
            refine k9_gr fX10_isOwnHere_198 (hr0).1 kg_10_27 (s10_27r hr0) ?_
            obtain ⟨V62, v63, e64, h⟩ := bd_some h
            refine kcX10_isHere fX10_isOwnHere_201 (hr0).1 rfl rfl (q_X10_isHere (hr0) (qGf (s10_27s hr0)) e64) (by decide) ?_
            obtain ⟨g66, h⟩ := gd_some h
            refine k9_if_ne fX10_isOwnHere_204 rfl g66 (fun c65 => ?_) (fun c65 => ?_)
            · replace h := ite_f (c65) h
              exact tj_X10_isOwnHere_J218 hr0   h
            · replace h := ite_t (Classical.not_not.mp c65) h
              refine t_l fX10_isOwnHere_207 rfl rfl rfl rfl ?_
              refine t_l fX10_isOwnHere_208 rfl rfl rfl rfl ?_
              refine k9_gr fX10_isOwnHere_209 (hr0).1 kg_10_28 (s10_28r hr0) ?_
              obtain ⟨V67, v68, e69, h⟩ := bd_some h
              refine kcX10_isHere fX10_isOwnHere_212 (hr0).1 rfl rfl (q_X10_isHere (hr0) (qGf (s10_28s hr0)) e69) (by decide) ?_
              obtain ⟨g71, h⟩ := gd_some h
              refine k9_if_eq fX10_isOwnHere_215 rfl g71 (fun c70 => ?_) (fun c70 => ?_)
              · replace h := ite_t (c70) h
                refine t_s fX10_isOwnHere_222 rfl rfl rfl ?_
                exact tj_X10_isOwnHere_J223 hr0   h
              · replace h := ite_f (c70) h
                exact tj_X10_isOwnHere_J218 hr0   h

theorem tj_X10_isOwnHere_J142 {X : mX} {n z : Nat} {G : mG} {r0 : Nat} (hr0 : is10 G r0) {j1 : Option Value} {V V' : mV} {v : Int} (h : F_X10_isOwnHere_J142 G r0 V = some (V', v)) : T X (2) 172 142 [some (.ref r0), j1] [] n z G V (qi n z G V' v) := by
  unfold F_X10_isOwnHere_J142 at h
  refine t_s fX10_isOwnHere_142 rfl rfl rfl ?_
  refine k9_goto fX10_isOwnHere_143 rfl ?_
  exact tj_X10_isOwnHere_J147 hr0   h

theorem tj_X10_isOwnHere_J71 {X : mX} {n z : Nat} {G : mG} {r0 : Nat} (hr0 : is10 G r0) {s0 : Int} {j1 : Option Value} {V V' : mV} {v : Int} (h : F_X10_isOwnHere_J71 G r0 s0 V = some (V', v)) : T X (2) 172 71 [some (.ref r0), j1] [.int (iI s0)] n z G V (qi n z G V' v) := by
  unfold F_X10_isOwnHere_J71 at h
  refine t_l fX10_isOwnHere_71 rfl rfl rfl rfl ?_
  refine t_l fX10_isOwnHere_72 rfl rfl rfl rfl ?_
  obtain ⟨g7, h⟩ := gd_some h
  refine k9_if_ne fX10_isOwnHere_73 rfl g7 (fun c6 => ?_) (fun c6 => ?_)
  · replace h := ite_f (c6) h
    exact tj_X10_isOwnHere_J142 hr0   h
  · replace h := ite_t (Classical.not_not.mp c6) h
    refine t_l fX10_isOwnHere_76 rfl rfl rfl rfl ?_
    refine t_l fX10_isOwnHere_77 rfl rfl rfl rfl ?_
    refine k9_gr fX10_isOwnHere_78 (hr0).1 kg_10_17 (s10_17r hr0) ?_
    obtain ⟨V72, v73, e74, h⟩ := bd_some h
    refine kcX10_isHere fX10_isOwnHere_81 (hr0).1 rfl rfl (q_X10_isHere (hr0) (qGf (s10_17s hr0)) e74) (by decide) ?_
    obtain ⟨g76, h⟩ := gd_some h
    refine k9_if_ne fX10_isOwnHere_84 rfl g76 (fun c75 => ?_) (fun c75 => ?_)
    · replace h := ite_f (c75) h
      exact tj_X10_isOwnHere_J142 hr0   h
    · replace h := ite_t (Classical.not_not.mp c75) h
      refine t_l fX10_isOwnHere_87 rfl rfl rfl rfl ?_
      refine t_l fX10_isOwnHere_88 rfl rfl rfl rfl ?_
      refine k9_gr fX10_isOwnHere_89 (hr0).1 kg_10_18 (s10_18r hr0) ?_
      obtain ⟨V77, v78, e79, h⟩ := bd_some h
      refine kcX10_isHere fX10_isOwnHere_92 (hr0).1 rfl rfl (q_X10_isHere (hr0) (qGf (s10_18s hr0)) e79) (by decide) ?_
      obtain ⟨g81, h⟩ := gd_some h
      refine k9_if_ne fX10_isOwnHere_95 rfl g81 (fun c80 => ?_) (fun c80 => ?_)
      · replace h := ite_f (c80) h
        exact tj_X10_isOwnHere_J142 hr0   h
      · replace h := ite_t (Classical.not_not.mp c80) h
        refine t_l fX10_isOwnHere_98 rfl rfl rfl rfl ?_
        refine t_l fX10_isOwnHere_99 rfl rfl rfl rfl ?_
        refine k9_gr fX10_isOwnHere_100 (hr0).1 kg_10_19 (s10_19r hr0) ?_
        obtain ⟨V82, v83, e84, h⟩ := bd_some h
        refine kcX10_isHere fX10_isOwnHere_103 (hr0).1 rfl rfl (q_X10_isHere (hr0) (qGf (s10_19s hr0)) e84) (by decide) ?_
        obtain ⟨g86, h⟩ := gd_some h
        refine k9_if_ne fX10_isOwnHere_106 rfl g86 (fun c85 => ?_) (fun c85 => ?_)
        · replace h := ite_f (c85) h
          exact tj_X10_isOwnHere_J142 hr0   h
        · replace h := ite_t (Classical.not_not.mp c85) h
          refine t_l fX10_isOwnHere_109 rfl rfl rfl rfl ?_
          refine t_l fX10_isOwnHere_110 rfl rfl rfl rfl ?_
          refine k9_gr fX10_isOwnHere_111 (hr0).1 kg_10_20 (s10_20r hr0) ?_
          obtain ⟨V87, v88, e89, h⟩ := bd_some h
          refine kcX10_isHere fX10_isOwnHere_114 (hr0).1 rfl rfl (q_X10_isHere (hr0) (qGf (s10_20s hr0)) e89) (by decide) ?_
          obtain ⟨g91, h⟩ := gd_some h
          refine k9_if_ne fX10_isOwnHere_117 rfl g91 (fun c90 => ?_) (fun c90 => ?_)
          · replace h := ite_f (c90) h
            exact tj_X10_isOwnHere_J142 hr0   h
          · replace h := ite_t (Classical.not_not.mp c90) h
            refine t_l fX10_isOwnHere_120 rfl rfl rfl rfl ?_
            refine t_l fX10_isOwnHere_121 rfl rfl rfl rfl ?_
            refine k9_gr fX10_isOwnHere_122 (hr0).1 kg_10_21 (s10_21r hr0) ?_
            obtain ⟨V92, v93, e94, h⟩ := bd_some h
            refine kcX10_isHere fX10_isOwnHere_125 (hr0).1 rfl rfl (q_X10_isHere (hr0) (qGf (s10_21s hr0)) e94) (by decide) ?_
            obtain ⟨g96, h⟩ := gd_some h
            refine k9_if_ne fX10_isOwnHere_128 rfl g96 (fun c95 => ?_) (fun c95 => ?_)
            · replace h := ite_f (c95) h
              exact tj_X10_isOwnHere_J142 hr0   h
            · replace h := ite_t (Classical.not_not.mp c95) h
              refine t_l fX10_isOwnHere_131 rfl rfl rfl rfl ?_
              refine t_l fX10_isOwnHere_132 rfl rfl rfl rfl ?_
              refine k9_gr fX10_isOwnHere_133 (hr0).1 kg_10_22 (s10_22r hr0) ?_
              obtain ⟨V97, v98, e99, h⟩ := bd_some h
              refine kcX10_isHere fX10_isOwnHere_136 (hr0).1 rfl rfl (q_X10_isHere (hr0) (qGf (s10_22s hr0)) e99) (by decide) ?_
              obtain ⟨g101, h⟩ := gd_some h
              refine k9_if_eq fX10_isOwnHere_139 rfl g101 (fun c100 => ?_) (fun c100 => ?_)
              · replace h := ite_t (c100) h
                refine t_s fX10_isOwnHere_146 rfl rfl rfl ?_
                exact tj_X10_isOwnHere_J147 hr0   h
              · replace h := ite_f (c100) h
                exact tj_X10_isOwnHere_J142 hr0   h

theorem tj_X10_isOwnHere_J66 {X : mX} {n z : Nat} {G : mG} {r0 : Nat} (hr0 : is10 G r0) {j1 : Option Value} {V V' : mV} {v : Int} (h : F_X10_isOwnHere_J66 G r0 V = some (V', v)) : T X (2) 172 66 [some (.ref r0), j1] [] n z G V (qi n z G V' v) := by
  unfold F_X10_isOwnHere_J66 at h
  refine t_s fX10_isOwnHere_66 rfl rfl rfl ?_
  refine k9_goto fX10_isOwnHere_67 rfl ?_
  exact tj_X10_isOwnHere_J71 hr0   h

theorem q_X10_isOwnHere {X : mX} {n z : Nat} {G : mG} {r0 : Nat} (hr0 : is10 G r0) {V V' : mV} {v : Int} (h : F_X10_isOwnHere G r0 V = some (V', v)) : Rn X (2) 172 [.ref r0] n z G V n z G V' (some (.int (iI v))) := by
  refine qi_toR (v := v) (L := [some (.ref r0), none]) rfl ?_
  unfold F_X10_isOwnHere at h
  refine t_l fX10_isOwnHere_0 rfl rfl rfl rfl ?_
  refine t_l fX10_isOwnHere_1 rfl rfl rfl rfl ?_
  refine k9_gr fX10_isOwnHere_2 (hr0).1 kg_10_11 (s10_11r hr0) ?_
  obtain ⟨V1, v2, e3, h⟩ := bd_some h
  refine kcX10_isHere fX10_isOwnHere_5 (hr0).1 rfl rfl (q_X10_isHere (hr0) (qGf (s10_11s hr0)) e3) (by decide) ?_
  obtain ⟨g5, h⟩ := gd_some h
  refine k9_if_ne fX10_isOwnHere_8 rfl g5 (fun c4 => ?_) (fun c4 => ?_)
  · replace h := ite_f (c4) h
    exact tj_X10_isOwnHere_J66 hr0   h
  · replace h := ite_t (Classical.not_not.mp c4) h
    refine t_l fX10_isOwnHere_11 rfl rfl rfl rfl ?_
    refine t_l fX10_isOwnHere_12 rfl rfl rfl rfl ?_
    refine k9_gr fX10_isOwnHere_13 (hr0).1 kg_10_12 (s10_12r hr0) ?_
    obtain ⟨V102, v103, e104, h⟩ := bd_some h
    refine kcX10_isHere fX10_isOwnHere_16 (hr0).1 rfl rfl (q_X10_isHere (hr0) (qGf (s10_12s hr0)) e104) (by decide) ?_
    obtain ⟨g106, h⟩ := gd_some h
    refine k9_if_ne fX10_isOwnHere_19 rfl g106 (fun c105 => ?_) (fun c105 => ?_)
    · replace h := ite_f (c105) h
      exact tj_X10_isOwnHere_J66 hr0   h
    · replace h := ite_t (Classical.not_not.mp c105) h
      refine t_l fX10_isOwnHere_22 rfl rfl rfl rfl ?_
      refine t_l fX10_isOwnHere_23 rfl rfl rfl rfl ?_
      refine k9_gr fX10_isOwnHere_24 (hr0).1 kg_10_13 (s10_13r hr0) ?_
      obtain ⟨V107, v108, e109, h⟩ := bd_some h
      refine kcX10_isHere fX10_isOwnHere_27 (hr0).1 rfl rfl (q_X10_isHere (hr0) (qGf (s10_13s hr0)) e109) (by decide) ?_
      obtain ⟨g111, h⟩ := gd_some h
      refine k9_if_ne fX10_isOwnHere_30 rfl g111 (fun c110 => ?_) (fun c110 => ?_)
      · replace h := ite_f (c110) h
        exact tj_X10_isOwnHere_J66 hr0   h
      · replace h := ite_t (Classical.not_not.mp c110) h
        refine t_l fX10_isOwnHere_33 rfl rfl rfl rfl ?_
        refine t_l fX10_isOwnHere_34 rfl rfl rfl rfl ?_
        refine k9_gr fX10_isOwnHere_35 (hr0).1 kg_10_14 (s10_14r hr0) ?_
        obtain ⟨V112, v113, e114, h⟩ := bd_some h
        refine kcX10_isHere fX10_isOwnHere_38 (hr0).1 rfl rfl (q_X10_isHere (hr0) (qGf (s10_14s hr0)) e114) (by decide) ?_
        obtain ⟨g116, h⟩ := gd_some h
        refine k9_if_ne fX10_isOwnHere_41 rfl g116 (fun c115 => ?_) (fun c115 => ?_)
        · replace h := ite_f (c115) h
          exact tj_X10_isOwnHere_J66 hr0   h
        · replace h := ite_t (Classical.not_not.mp c115) h
          refine t_l fX10_isOwnHere_44 rfl rfl rfl rfl ?_
          refine t_l fX10_isOwnHere_45 rfl rfl rfl rfl ?_
          refine k9_gr fX10_isOwnHere_46 (hr0).1 kg_10_15 (s10_15r hr0) ?_
          obtain ⟨V117, v118, e119, h⟩ := bd_some h
          refine kcX10_isHere fX10_isOwnHere_49 (hr0).1 rfl rfl (q_X10_isHere (hr0) (qGf (s10_15s hr0)) e119) (by decide) ?_
          obtain ⟨g121, h⟩ := gd_some h
          refine k9_if_ne fX10_isOwnHere_52 rfl g121 (fun c120 => ?_) (fun c120 => ?_)
          · replace h := ite_f (c120) h
            exact tj_X10_isOwnHere_J66 hr0   h
          · replace h := ite_t (Classical.not_not.mp c120) h
            refine t_l fX10_isOwnHere_55 rfl rfl rfl rfl ?_
            refine t_l fX10_isOwnHere_56 rfl rfl rfl rfl ?_
            refine k9_gr fX10_isOwnHere_57 (hr0).1 kg_10_16 (s10_16r hr0) ?_
            obtain ⟨V122, v123, e124, h⟩ := bd_some h
            refine kcX10_isHere fX10_isOwnHere_60 (hr0).1 rfl rfl (q_X10_isHere (hr0) (qGf (s10_16s hr0)) e124) (by decide) ?_
            obtain ⟨g126, h⟩ := gd_some h
            refine k9_if_eq fX10_isOwnHere_63 rfl g126 (fun c125 => ?_) (fun c125 => ?_)
            · replace h := ite_t (c125) h
              refine t_s fX10_isOwnHere_70 rfl rfl rfl ?_
              exact tj_X10_isOwnHere_J71 hr0   h
            · replace h := ite_f (c125) h
              exact tj_X10_isOwnHere_J66 hr0   h

theorem tj_X10_name_J37 {X : mX} {n z : Nat} {G : mG} {r0 : Nat} (hr0 : is10 G r0) {j1 j2 : Option Value} {V V' : mV} {v : Int} (h : F_X10_name_J37 G r0 V = some (V', v)) : T X (3) 173 37 [some (.ref r0), j1, j2] [] n z G V (qj n z G V' v) := by
  unfold F_X10_name_J37 at h
  refine t_l fX10_name_37 rfl rfl rfl rfl ?_
  refine t_s fX10_name_38 rfl rfl rfl ?_
  refine t_l fX10_name_39 rfl rfl rfl rfl ?_
  refine k9_gi fX10_name_40 (hr0).1 kg_10_2 ?_
  obtain ⟨V11, v12, e13, h⟩ := bd_some h
  refine kcX10_fail fX10_name_43 (hr0).1 rfl (q_X10_fail (hr0) e13) (by decide) ?_
  refine t_s fX10_name_46 rfl rfl rfl ?_
  refine t_ret fX10_name_47 rX10_name ?_
  exact qf_j h

theorem tb_X10_name_58 {X : mX} {n z : Nat} {G : mG} {r0 : Nat} (hr0 : is10 G r0) {x1 : Int} {V V' : mV} {q : Nat × Int} {Q : Nat → Nat → mG → mV → Option Value → Prop} (h0 : q.1 = 0 → T X (3) 173 58 [some (.ref r0), some (.long (lI q.2)), none] [] n z G V' Q) (h1 : q.1 = 1 → T X (3) 173 98 [some (.ref r0), some (.long (lI q.2)), none] [] n z G V' Q) (h2 : q.1 = 2 → T X (3) 173 145 [some (.ref r0), some (.long (lI q.2)), none] [] n z G V' Q) (h : B_X10_name_58 G r0 x1 V = some (V', q)) : T X (3) 173 58 [some (.ref r0), some (.long (lI x1)), none] [] n z G V Q := by
  unfold B_X10_name_58 at h
  refine t_l fX10_name_58 rfl rfl rfl rfl ?_
  refine k9_gi fX10_name_59 (hr0).1 kg_10_2 ?_
  refine t_l fX10_name_62 rfl rfl rfl rfl ?_
  refine k9_gi fX10_name_63 (hr0).1 kg_10_3 ?_
  obtain ⟨g24, h⟩ := gd_some h
  obtain ⟨g25, h⟩ := gd_some h
  refine k9_ic_ge fX10_name_66 rfl g24 g25 (fun c23 => ?_) (fun c23 => ?_)
  · replace h := ite_t (c23) h
    cases h
    exact h2 rfl
  · replace h := ite_f (c23) h
    refine t_l fX10_name_69 rfl rfl rfl rfl ?_
    refine k9_gr fX10_name_70 (hr0).1 kg_10_0 (s10_0r hr0) ?_
    refine t_l fX10_name_73 rfl rfl rfl rfl ?_
    refine k9_gi fX10_name_74 (hr0).1 kg_10_2 ?_
    obtain ⟨g26, h⟩ := gd_some h
    refine k9_ia fX10_name_77 (s10_0s hr0) g26.1 g26.2.1 g26.2.2 ?_
    obtain ⟨V27, v28, e29, h⟩ := bd_some h
    refine kcX10_isLetter fX10_name_78 rfl (q_X10_isLetter  e29) (by decide) ?_
    obtain ⟨g31, h⟩ := gd_some h
    refine k9_if_eq fX10_name_81 rfl g31 (fun c30 => ?_) (fun c30 => ?_)
    · replace h := ite_t (c30) h
      cases h
      exact h2 rfl
    · replace h := ite_f (c30) h
      refine t_l fX10_name_84 rfl rfl rfl rfl ?_
      refine k9_gi fX10_name_85 (hr0).1 kg_10_2 ?_
      refine t_l fX10_name_88 rfl rfl rfl rfl ?_
      refine k9_gi fX10_name_89 (hr0).1 kg_10_35 ?_
      refine k9_isub fX10_name_92 ?_
      refine t_s fX10_name_93 rfl rfl rfl ?_
      obtain ⟨g33, h⟩ := gd_some h
      refine k9_ic_ne fX10_name_95 rfl g33 ⟨by decide, by decide⟩ (fun c32 => ?_) (fun c32 => ?_)
      · replace h := ite_f (c32) h
        refine t_s fX10_name_109 rfl rfl rfl ?_
        refine t_l fX10_name_112 rfl rfl rfl rfl ?_
        refine k9_lmul fX10_name_113 ?_
        refine t_l fX10_name_114 rfl rfl rfl rfl ?_
        refine k9_gr fX10_name_115 (hr0).1 kg_10_0 (s10_0r hr0) ?_
        refine t_l fX10_name_118 rfl rfl rfl rfl ?_
        refine k9_gi fX10_name_119 (hr0).1 kg_10_2 ?_
        obtain ⟨g34, h⟩ := gd_some h
        refine k9_ia fX10_name_122 (s10_0s hr0) g34.1 g34.2.1 g34.2.2 ?_
        obtain ⟨g35, h⟩ := gd_some h
        refine k9_i2l fX10_name_123 g35 ?_
        refine k9_ladd fX10_name_124 ?_
        refine t_s fX10_name_125 rfl rfl rfl ?_
        refine k9_lsub fX10_name_128 ?_
        refine t_s fX10_name_129 rfl rfl rfl ?_
        refine k9_ladd fX10_name_130 ?_
        replace h := lt_some h
        refine t_l fX10_name_131 rfl rfl rfl rfl ?_
        refine t_l fX10_name_132 rfl rfl rfl rfl ?_
        refine t_s fX10_name_133 rfl rfl rfl ?_
        refine k9_gi fX10_name_134 (hr0).1 kg_10_2 ?_
        refine t_s fX10_name_137 rfl rfl rfl ?_
        refine k9_iadd fX10_name_138 ?_
        refine k9_pi fX10_name_139 (hr0).1 kp_10_2 ?_
        replace h := lt_some h
        refine k9_goto fX10_name_142 rfl ?_
        cases h
        exact h0 rfl
      · replace h := ite_t (Classical.not_not.mp c32) h
        cases h
        exact h1 rfl

theorem tl_X10_name_58 {X : mX} {n z : Nat} {G : mG} {r0 : Nat} (hr0 : is10 G r0) {x1 : Int} {V V' : mV} {fu : Nat} {q : Nat × Int} {Q : Nat → Nat → mG → mV → Option Value → Prop} (k1 : q.1 = 1 → T X (3) 173 98 [some (.ref r0), some (.long (lI q.2)), none] [] n z G V' Q) (k2 : q.1 = 2 → T X (3) 173 145 [some (.ref r0), some (.long (lI q.2)), none] [] n z G V' Q) (h : lp (fun (s : Int) V => B_X10_name_58 G r0 s V) fu x1 V = some (V', q)) : T X (3) 173 58 [some (.ref r0), some (.long (lI x1)), none] [] n z G V Q :=
  lp_go (P0 := fun s V => T X (3) 173 58 [some (.ref r0), some (.long (lI s)), none] [] n z G V Q) (PE := fun t s V => (t = 1 → T X (3) 173 98 [some (.ref r0), some (.long (lI s)), none] [] n z G V Q) ∧ (t = 2 → T X (3) 173 145 [some (.ref r0), some (.long (lI s)), none] [] n z G V Q)) (fun s V V' q hb h0 h1 => tb_X10_name_58 hr0  h0 (fun e => (h1 (by omega)).1 e) (fun e => (h1 (by omega)).2 e) hb) fu x1 V V' q h ⟨k1, k2⟩

theorem q_X10_name {X : mX} {n z : Nat} {G : mG} {r0 : Nat} (hr0 : is10 G r0) {V V' : mV} {v : Int} (h : F_X10_name G r0 V = some (V', v)) : Rn X (3) 173 [.ref r0] n z G V n z G V' (some (.long (lI v))) := by
  refine qj_toR (v := v) (L := [some (.ref r0), none, none]) rfl ?_
  unfold F_X10_name at h
  refine t_l fX10_name_0 rfl rfl rfl rfl ?_
  refine k9_gi fX10_name_1 (hr0).1 kg_10_5 ?_
  obtain ⟨g2, h⟩ := gd_some h
  refine k9_if_eq fX10_name_4 rfl g2 (fun c1 => ?_) (fun c1 => ?_)
  · replace h := ite_t (c1) h
    refine t_l fX10_name_9 rfl rfl rfl rfl ?_
    obtain ⟨V3, v4, e5, h⟩ := bd_some h
    refine kcX10_look fX10_name_10 (hr0).1 rfl (q_X10_look (hr0) e5) (by decide) ?_
    obtain ⟨V6, v7, e8, h⟩ := bd_some h
    refine kcX10_isLetter fX10_name_13 rfl (q_X10_isLetter  e8) (by decide) ?_
    obtain ⟨g10, h⟩ := gd_some h
    refine k9_if_eq fX10_name_16 rfl g10 (fun c9 => ?_) (fun c9 => ?_)
    · replace h := ite_t (c9) h
      exact tj_X10_name_J37 hr0   h
    · replace h := ite_f (c9) h
      refine t_l fX10_name_19 rfl rfl rfl rfl ?_
      refine k9_gi fX10_name_20 (hr0).1 kg_10_2 ?_
      refine t_l fX10_name_23 rfl rfl rfl rfl ?_
      refine k9_gi fX10_name_24 (hr0).1 kg_10_4 ?_
      obtain ⟨g15, h⟩ := gd_some h
      obtain ⟨g16, h⟩ := gd_some h
      refine k9_ic_eq fX10_name_27 rfl g15 g16 (fun c14 => ?_) (fun c14 => ?_)
      · replace h := ite_t (c14) h
        exact tj_X10_name_J37 hr0   h
      · replace h := ite_f (c14) h
        refine t_l fX10_name_30 rfl rfl rfl rfl ?_
        obtain ⟨V17, v18, e19, h⟩ := bd_some h
        refine kcX10_isOwnHere fX10_name_31 (hr0).1 rfl (q_X10_isOwnHere (hr0) e19) (by decide) ?_
        obtain ⟨g21, h⟩ := gd_some h
        refine k9_if_eq fX10_name_34 rfl g21 (fun c20 => ?_) (fun c20 => ?_)
        · replace h := ite_t (c20) h
          refine t_l fX10_name_48 rfl rfl rfl rfl ?_
          refine t_l fX10_name_49 rfl rfl rfl rfl ?_
          refine k9_gi fX10_name_50 (hr0).1 kg_10_2 ?_
          refine k9_pi fX10_name_53 (hr0).1 kp_10_35 ?_
          replace h := lt_some h
          refine t_s fX10_name_56 rfl rfl rfl ?_
          refine t_l fX10_name_57 rfl rfl rfl rfl ?_
          obtain ⟨V38, u39, e40, h⟩ := bd_some h
          refine tl_X10_name_58 hr0  (fun e41 => ?_) (fun e41 => ?_) e40
          · replace h := ite_t e41 h
            refine t_l fX10_name_98 rfl rfl rfl rfl ?_
            refine t_s fX10_name_99 rfl rfl rfl ?_
            refine t_l fX10_name_100 rfl rfl rfl rfl ?_
            refine k9_gi fX10_name_101 (hr0).1 kg_10_2 ?_
            obtain ⟨V42, v43, e44, h⟩ := bd_some h
            refine kcX10_fail fX10_name_104 (hr0).1 rfl (q_X10_fail (hr0) e44) (by decide) ?_
            refine t_s fX10_name_107 rfl rfl rfl ?_
            refine t_ret fX10_name_108 rX10_name ?_
            exact qf_j h
          · replace h := ite_f (by omega) h
            refine t_l fX10_name_145 rfl rfl rfl rfl ?_
            refine t_l fX10_name_146 rfl rfl rfl rfl ?_
            refine k9_gi fX10_name_147 (hr0).1 kg_10_2 ?_
            refine k9_pi fX10_name_150 (hr0).1 kp_10_4 ?_
            replace h := lt_some h
            refine t_l fX10_name_153 rfl rfl rfl rfl ?_
            refine t_ret fX10_name_154 rX10_name ?_
            exact qf_j h
        · replace h := ite_f (c20) h
          exact tj_X10_name_J37 hr0   h
  · replace h := ite_f (c1) h
    refine t_s fX10_name_7 rfl rfl rfl ?_
    refine t_ret fX10_name_8 rX10_name ?_
    exact qf_j h

theorem q_X10_isAllowed {X : mX} {n z : Nat} {G : mG} {r0 : Nat} (hr0 : is10 G r0) {x1 : Int} {V V' : mV} {v : Int} (h : F_X10_isAllowed G r0 x1 V = some (V', v)) : Rn X (0) 174 [.ref r0, .int (iI x1)] n z G V n z G V' (some (.int (iI v))) := by
  refine qi_toR (v := v) (L := [some (.ref r0), some (.int (iI x1))]) rfl ?_
  unfold F_X10_isAllowed at h
  refine t_l fX10_isAllowed_0 rfl rfl rfl rfl ?_
  refine t_s fX10_isAllowed_1 rfl rfl rfl ?_
  obtain ⟨g2, h⟩ := gd_some h
  refine k9_ic_ge fX10_isAllowed_2 rfl g2 ⟨by decide, by decide⟩ (fun c1 => ?_) (fun c1 => ?_)
  · replace h := ite_t (c1) h
    refine t_l fX10_isAllowed_7 rfl rfl rfl rfl ?_
    refine k9_gi fX10_isAllowed_8 (hr0).1 kg_10_48 ?_
    obtain ⟨g4, h⟩ := gd_some h
    refine k9_if_ne fX10_isAllowed_11 rfl g4 (fun c3 => ?_) (fun c3 => ?_)
    · replace h := ite_f (c3) h
      refine t_l fX10_isAllowed_27 rfl rfl rfl rfl ?_
      refine k9_gi fX10_isAllowed_28 (hr0).1 kg_10_48 ?_
      refine t_s fX10_isAllowed_31 rfl rfl rfl ?_
      refine k9_ic_ne fX10_isAllowed_32 rfl g4 ⟨by decide, by decide⟩ (fun c5 => ?_) (fun c5 => ?_)
      · replace h := ite_f (c5) h
        refine t_l fX10_isAllowed_58 rfl rfl rfl rfl ?_
        refine k9_gi fX10_isAllowed_59 (hr0).1 kg_10_48 ?_
        refine t_s fX10_isAllowed_62 rfl rfl rfl ?_
        refine k9_ic_ne fX10_isAllowed_63 rfl g4 ⟨by decide, by decide⟩ (fun c6 => ?_) (fun c6 => ?_)
        · replace h := ite_f (c6) h
          refine t_l fX10_isAllowed_90 rfl rfl rfl rfl ?_
          refine t_s fX10_isAllowed_91 rfl rfl rfl ?_
          refine k9_ic_le fX10_isAllowed_93 rfl g2 ⟨by decide, by decide⟩ (fun c7 => ?_) (fun c7 => ?_)
          · replace h := ite_t (c7) h
            refine t_s fX10_isAllowed_100 rfl rfl rfl ?_
            refine t_ret fX10_isAllowed_101 (rX10_isAllowed _ (by decide)) ?_
            exact qf_i h
          · replace h := ite_f (c7) h
            refine t_s fX10_isAllowed_96 rfl rfl rfl ?_
            refine k9_goto fX10_isAllowed_97 rfl ?_
            refine t_ret fX10_isAllowed_101 (rX10_isAllowed _ (by decide)) ?_
            exact qf_i h
        · replace h := ite_t (Classical.not_not.mp c6) h
          refine t_l fX10_isAllowed_66 rfl rfl rfl rfl ?_
          refine t_s fX10_isAllowed_67 rfl rfl rfl ?_
          refine k9_ic_eq fX10_isAllowed_68 rfl g2 ⟨by decide, by decide⟩ (fun c8 => ?_) (fun c8 => ?_)
          · replace h := ite_t (c8) h
            refine t_s fX10_isAllowed_82 rfl rfl rfl ?_
            refine k9_goto fX10_isAllowed_83 rfl ?_
            refine t_ret fX10_isAllowed_101 (rX10_isAllowed _ (by decide)) ?_
            exact qf_i h
          · replace h := ite_f (c8) h
            refine t_l fX10_isAllowed_71 rfl rfl rfl rfl ?_
            refine t_s fX10_isAllowed_72 rfl rfl rfl ?_
            refine k9_ic_eq fX10_isAllowed_73 rfl g2 ⟨by decide, by decide⟩ (fun c9 => ?_) (fun c9 => ?_)
            · replace h := ite_t (c9) h
              refine t_s fX10_isAllowed_82 rfl rfl rfl ?_
              refine k9_goto fX10_isAllowed_83 rfl ?_
              refine t_ret fX10_isAllowed_101 (rX10_isAllowed _ (by decide)) ?_
              exact qf_i h
            · replace h := ite_f (c9) h
              refine t_l fX10_isAllowed_76 rfl rfl rfl rfl ?_
              refine t_s fX10_isAllowed_77 rfl rfl rfl ?_
              refine k9_ic_ne fX10_isAllowed_79 rfl g2 ⟨by decide, by decide⟩ (fun c10 => ?_) (fun c10 => ?_)
              · replace h := ite_f (c10) h
                refine t_s fX10_isAllowed_86 rfl rfl rfl ?_
                refine k9_goto fX10_isAllowed_87 rfl ?_
                refine t_ret fX10_isAllowed_101 (rX10_isAllowed _ (by decide)) ?_
                exact qf_i h
              · replace h := ite_t (Classical.not_not.mp c10) h
                refine t_s fX10_isAllowed_82 rfl rfl rfl ?_
                refine k9_goto fX10_isAllowed_83 rfl ?_
                refine t_ret fX10_isAllowed_101 (rX10_isAllowed _ (by decide)) ?_
                exact qf_i h
      · replace h := ite_t (Classical.not_not.mp c5) h
        refine t_l fX10_isAllowed_35 rfl rfl rfl rfl ?_
        refine t_s fX10_isAllowed_36 rfl rfl rfl ?_
        refine k9_ic_eq fX10_isAllowed_37 rfl g2 ⟨by decide, by decide⟩ (fun c11 => ?_) (fun c11 => ?_)
        · replace h := ite_t (c11) h
          refine t_s fX10_isAllowed_50 rfl rfl rfl ?_
          refine k9_goto fX10_isAllowed_51 rfl ?_
          refine t_ret fX10_isAllowed_101 (rX10_isAllowed _ (by decide)) ?_
          exact qf_i h
        · replace h := ite_f (c11) h
          refine t_l fX10_isAllowed_40 rfl rfl rfl rfl ?_
          refine t_s fX10_isAllowed_41 rfl rfl rfl ?_
          refine k9_ic_eq fX10_isAllowed_42 rfl g2 ⟨by decide, by decide⟩ (fun c12 => ?_) (fun c12 => ?_)
          · replace h := ite_t (c12) h
            refine t_s fX10_isAllowed_50 rfl rfl rfl ?_
            refine k9_goto fX10_isAllowed_51 rfl ?_
            refine t_ret fX10_isAllowed_101 (rX10_isAllowed _ (by decide)) ?_
            exact qf_i h
          · replace h := ite_f (c12) h
            refine t_l fX10_isAllowed_45 rfl rfl rfl rfl ?_
            refine t_s fX10_isAllowed_46 rfl rfl rfl ?_
            refine k9_ic_ne fX10_isAllowed_47 rfl g2 ⟨by decide, by decide⟩ (fun c13 => ?_) (fun c13 => ?_)
            · replace h := ite_f (c13) h
              refine t_s fX10_isAllowed_54 rfl rfl rfl ?_
              refine k9_goto fX10_isAllowed_55 rfl ?_
              refine t_ret fX10_isAllowed_101 (rX10_isAllowed _ (by decide)) ?_
              exact qf_i h
            · replace h := ite_t (Classical.not_not.mp c13) h
              refine t_s fX10_isAllowed_50 rfl rfl rfl ?_
              refine k9_goto fX10_isAllowed_51 rfl ?_
              refine t_ret fX10_isAllowed_101 (rX10_isAllowed _ (by decide)) ?_
              exact qf_i h
    · replace h := ite_t (Classical.not_not.mp c3) h
      refine t_l fX10_isAllowed_14 rfl rfl rfl rfl ?_
      refine t_s fX10_isAllowed_15 rfl rfl rfl ?_
      refine k9_ic_ge fX10_isAllowed_16 rfl g2 ⟨by decide, by decide⟩ (fun c14 => ?_) (fun c14 => ?_)
      · replace h := ite_t (c14) h
        refine t_s fX10_isAllowed_23 rfl rfl rfl ?_
        refine k9_goto fX10_isAllowed_24 rfl ?_
        refine t_ret fX10_isAllowed_101 (rX10_isAllowed _ (by decide)) ?_
        exact qf_i h
      · replace h := ite_f (c14) h
        refine t_s fX10_isAllowed_19 rfl rfl rfl ?_
        refine k9_goto fX10_isAllowed_20 rfl ?_
        refine t_ret fX10_isAllowed_101 (rX10_isAllowed _ (by decide)) ?_
        exact qf_i h
  · replace h := ite_f (c1) h
    refine t_s fX10_isAllowed_5 rfl rfl rfl ?_
    refine t_ret fX10_isAllowed_6 (rX10_isAllowed _ (by decide)) ?_
    exact qf_i h

theorem tj_X10_isFull_J23 {X : mX} {n z : Nat} {G : mG} {r0 : Nat} (hr0 : is10 G r0) {x1 x2 x3 : Int} {V V' : mV} {v : Int} (h : F_X10_isFull_J23 G r0 x1 x2 x3 V = some (V', v)) : T X (1) 175 23 [some (.ref r0), some (.int (iI x1)), some (.int (iI x2)), some (.int (iI x3))] [] n z G V (qi n z G V' v) := by
  unfold F_X10_isFull_J23 at h
  refine t_l fX10_isFull_23 rfl rfl rfl rfl ?_
  refine k9_gi fX10_isFull_24 (hr0).1 kg_10_5 ?_
  obtain ⟨g4, h⟩ := gd_some h
  refine k9_if_eq fX10_isFull_27 rfl g4 (fun c3 => ?_) (fun c3 => ?_)
  · replace h := ite_t (c3) h
    refine t_s fX10_isFull_34 rfl rfl rfl ?_
    refine t_ret fX10_isFull_35 (rX10_isFull _ (by decide)) ?_
    exact qf_i h
  · replace h := ite_f (c3) h
    refine t_s fX10_isFull_30 rfl rfl rfl ?_
    refine k9_goto fX10_isFull_31 rfl ?_
    refine t_ret fX10_isFull_35 (rX10_isFull _ (by decide)) ?_
    exact qf_i h

theorem q_X10_isFull {X : mX} {n z : Nat} {G : mG} {r0 : Nat} (hr0 : is10 G r0) {x1 x2 x3 : Int} {V V' : mV} {v : Int} (h : F_X10_isFull G r0 x1 x2 x3 V = some (V', v)) : Rn X (1) 175 [.ref r0, .int (iI x1), .int (iI x2), .int (iI x3)] n z G V n z G V' (some (.int (iI v))) := by
  refine qi_toR (v := v) (L := [some (.ref r0), some (.int (iI x1)), some (.int (iI x2)), some (.int (iI x3))]) rfl ?_
  unfold F_X10_isFull at h
  refine t_l fX10_isFull_0 rfl rfl rfl rfl ?_
  refine k9_gi fX10_isFull_1 (hr0).1 kg_10_5 ?_
  obtain ⟨g2, h⟩ := gd_some h
  refine k9_if_ne fX10_isFull_4 rfl g2 (fun c1 => ?_) (fun c1 => ?_)
  · replace h := ite_f (c1) h
    exact tj_X10_isFull_J23 hr0   h
  · replace h := ite_t (Classical.not_not.mp c1) h
    refine t_l fX10_isFull_7 rfl rfl rfl rfl ?_
    refine k9_gr fX10_isFull_8 (hr0).1 kg_10_36 (s10_36r hr0) ?_
    refine t_l fX10_isFull_11 rfl rfl rfl rfl ?_
    obtain ⟨g5, h⟩ := gd_some h
    refine k9_ia fX10_isFull_12 (s10_36s hr0) g5.1 g5.2.1 g5.2.2 ?_
    refine t_l fX10_isFull_13 rfl rfl rfl rfl ?_
    obtain ⟨g7, h⟩ := gd_some h
    obtain ⟨g8, h⟩ := gd_some h
    refine k9_ic_ne fX10_isFull_14 rfl g7 g8 (fun c6 => ?_) (fun c6 => ?_)
    · replace h := ite_f (c6) h
      exact tj_X10_isFull_J23 hr0   h
    · replace h := ite_t (Classical.not_not.mp c6) h
      refine t_l fX10_isFull_17 rfl rfl rfl rfl ?_
      refine t_s fX10_isFull_18 rfl rfl rfl ?_
      refine t_l fX10_isFull_19 rfl rfl rfl rfl ?_
      obtain ⟨V9, v10, e11, h⟩ := bd_some h
      refine kcX10_fail fX10_isFull_20 (hr0).1 rfl (q_X10_fail (hr0) e11) (by decide) ?_
      exact tj_X10_isFull_J23 hr0   h

theorem tb_X10_nameOf_3 {X : mX} {n z : Nat} {G : mG} {r0 : Nat} (hr0 : is10 G r0) {x1 x2 x4 : Int} {V V' : mV} {q : Nat × Int} {Q : Nat → Nat → mG → mV → Option Value → Prop} (h0 : q.1 = 0 → T X (0) 176 3 [some (.ref r0), some (.int (iI x1)), some (.long (lI x2)), none, some (.int (iI q.2))] [] n z G V' Q) (h1 : q.1 = 1 → T X (0) 176 31 [some (.ref r0), some (.int (iI x1)), some (.long (lI x2)), none, some (.int (iI q.2))] [] n z G V' Q) (h2 : q.1 = 2 → T X (0) 176 40 [some (.ref r0), some (.int (iI x1)), some (.long (lI x2)), none, some (.int (iI q.2))] [] n z G V' Q) (h : B_X10_nameOf_3 G r0 x1 x2 x4 V = some (V', q)) : T X (0) 176 3 [some (.ref r0), some (.int (iI x1)), some (.long (lI x2)), none, some (.int (iI x4))] [] n z G V Q := by
  unfold B_X10_nameOf_3 at h
  refine t_l fX10_nameOf_3 rfl rfl rfl rfl ?_
  refine t_l fX10_nameOf_5 rfl rfl rfl rfl ?_
  refine k9_gr fX10_nameOf_6 (hr0).1 kg_10_36 (s10_36r hr0) ?_
  refine t_l fX10_nameOf_9 rfl rfl rfl rfl ?_
  obtain ⟨g1, h⟩ := gd_some h
  refine k9_ia fX10_nameOf_10 (s10_36s hr0) g1.1 g1.2.1 g1.2.2 ?_
  obtain ⟨g3, h⟩ := gd_some h
  obtain ⟨g4, h⟩ := gd_some h
  refine k9_ic_ge fX10_nameOf_11 rfl g3 g4 (fun c2 => ?_) (fun c2 => ?_)
  · replace h := ite_t (c2) h
    cases h
    exact h2 rfl
  · replace h := ite_f (c2) h
    refine t_l fX10_nameOf_14 rfl rfl rfl rfl ?_
    refine k9_gr fX10_nameOf_15 (hr0).1 kg_10_37 (s10_37r hr0) ?_
    refine t_s fX10_nameOf_18 rfl rfl rfl ?_
    refine t_l fX10_nameOf_20 rfl rfl rfl rfl ?_
    refine k9_imul fX10_nameOf_21 ?_
    refine t_l fX10_nameOf_22 rfl rfl rfl rfl ?_
    refine k9_iadd fX10_nameOf_24 ?_
    obtain ⟨g5, h⟩ := gd_some h
    refine k9_la fX10_nameOf_25 (s10_37s hr0) g5.1 g5.2.1 g5.2.2 ?_
    refine t_l fX10_nameOf_26 rfl rfl rfl rfl ?_
    obtain ⟨g6, h⟩ := gd_some h
    obtain ⟨g7, h⟩ := gd_some h
    refine k9_lcmp fX10_nameOf_27 g6 g7 ?_
    refine k9_if_ne fX10_nameOf_28 rfl (cmp_rg _ _) (fun c8 => ?_) (fun c8 => ?_)
    · replace h := ite_f (fun q => c8 (cmp_eq.mpr q)) h
      replace h := lt_some h
      refine k9_iinc fX10_nameOf_34 rfl (Nat.le_of_ble_eq_true rfl) rfl ?_
      refine k9_goto fX10_nameOf_37 rfl ?_
      cases h
      exact h0 rfl
    · replace h := ite_t (Classical.byContradiction fun q => c8 (fun w => q (cmp_eq.mp w))) h
      cases h
      exact h1 rfl

theorem tl_X10_nameOf_3 {X : mX} {n z : Nat} {G : mG} {r0 : Nat} (hr0 : is10 G r0) {x1 x2 x4 : Int} {V V' : mV} {fu : Nat} {q : Nat × Int} {Q : Nat → Nat → mG → mV → Option Value → Prop} (k1 : q.1 = 1 → T X (0) 176 31 [some (.ref r0), some (.int (iI x1)), some (.long (lI x2)), none, some (.int (iI q.2))] [] n z G V' Q) (k2 : q.1 = 2 → T X (0) 176 40 [some (.ref r0), some (.int (iI x1)), some (.long (lI x2)), none, some (.int (iI q.2))] [] n z G V' Q) (h : lp (fun (s : Int) V => B_X10_nameOf_3 G r0 x1 x2 s V) fu x4 V = some (V', q)) : T X (0) 176 3 [some (.ref r0), some (.int (iI x1)), some (.long (lI x2)), none, some (.int (iI x4))] [] n z G V Q :=
  lp_go (P0 := fun s V => T X (0) 176 3 [some (.ref r0), some (.int (iI x1)), some (.long (lI x2)), none, some (.int (iI s))] [] n z G V Q) (PE := fun t s V => (t = 1 → T X (0) 176 31 [some (.ref r0), some (.int (iI x1)), some (.long (lI x2)), none, some (.int (iI s))] [] n z G V Q) ∧ (t = 2 → T X (0) 176 40 [some (.ref r0), some (.int (iI x1)), some (.long (lI x2)), none, some (.int (iI s))] [] n z G V Q)) (fun s V V' q hb h0 h1 => tb_X10_nameOf_3 hr0  h0 (fun e => (h1 (by omega)).1 e) (fun e => (h1 (by omega)).2 e) hb) fu x4 V V' q h ⟨k1, k2⟩

theorem q_X10_nameOf {X : mX} {n z : Nat} {G : mG} {r0 : Nat} (hr0 : is10 G r0) {x1 x2 : Int} {V V' : mV} {v : Int} (h : F_X10_nameOf G r0 x1 x2 V = some (V', v)) : Rn X (0) 176 [.ref r0, .int (iI x1), .long (lI x2)] n z G V n z G V' (some (.int (iI v))) := by
  refine qi_toR (v := v) (L := [some (.ref r0), some (.int (iI x1)), some (.long (lI x2)), none, none]) rfl ?_
  unfold F_X10_nameOf at h
  refine t_s fX10_nameOf_0 rfl rfl rfl ?_
  refine t_l fX10_nameOf_1 rfl rfl rfl rfl ?_
  obtain ⟨V10, u11, e12, h⟩ := bd_some h
  refine tl_X10_nameOf_3 hr0  (fun e13 => ?_) (fun e13 => ?_) e12
  · replace h := ite_t e13 h
    refine t_l fX10_nameOf_31 rfl rfl rfl rfl ?_
    refine t_ret fX10_nameOf_33 rX10_nameOf ?_
    exact qf_i h
  · replace h := ite_f (by omega) h
    refine t_s fX10_nameOf_40 rfl rfl rfl ?_
    refine t_ret fX10_nameOf_41 rX10_nameOf ?_
    exact qf_i h

theorem tb_X10_newName_7 {X : mX} {n z : Nat} {G : mG} {r0 : Nat} (hr0 : is10 G r0) {x1 x3 : Int} {V V' : mV} {q : Nat × Int} {Q : Nat → Nat → mG → mV → Option Value → Prop} (h0 : q.1 = 0 → T X (4) 177 7 [some (.ref r0), some (.long (lI x1)), none, some (.int (iI q.2))] [] n z G V' Q) (h1 : q.1 = 1 → T X (4) 177 44 [some (.ref r0), some (.long (lI x1)), none, some (.int (iI q.2))] [] n z G V' Q) (h : B_X10_newName_7 G r0 x1 x3 V = some (V', q)) : T X (4) 177 7 [some (.ref r0), some (.long (lI x1)), none, some (.int (iI x3))] [] n z G V Q := by
  unfold B_X10_newName_7 at h
  refine t_l fX10_newName_7 rfl rfl rfl rfl ?_
  refine t_s fX10_newName_8 rfl rfl rfl ?_
  obtain ⟨g5, h⟩ := gd_some h
  refine k9_ic_ge fX10_newName_9 rfl g5 ⟨by decide, by decide⟩ (fun c4 => ?_) (fun c4 => ?_)
  · replace h := ite_t (c4) h
    cases h
    exact h1 rfl
  · replace h := ite_f (c4) h
    refine t_l fX10_newName_12 rfl rfl rfl rfl ?_
    refine k9_gi fX10_newName_13 (hr0).1 kg_10_5 ?_
    obtain ⟨g7, h⟩ := gd_some h
    refine k9_if_ne fX10_newName_16 rfl g7 (fun c6 => ?_) (fun c6 => ?_)
    · replace h := ite_f (c6) h
      replace h := lt_some h
      refine k9_iinc fX10_newName_38 rfl (Nat.le_of_ble_eq_true rfl) rfl ?_
      refine k9_goto fX10_newName_41 rfl ?_
      cases h
      exact h0 rfl
    · replace h := ite_t (Classical.not_not.mp c6) h
      refine t_l fX10_newName_19 rfl rfl rfl rfl ?_
      refine t_l fX10_newName_20 rfl rfl rfl rfl ?_
      refine t_l fX10_newName_21 rfl rfl rfl rfl ?_
      obtain ⟨V9, v10, e11, h⟩ := bd_some h
      refine kcX10_nameOf fX10_newName_22 (hr0).1 rfl (q_X10_nameOf (hr0) e11) (by decide) ?_
      refine t_s fX10_newName_25 rfl rfl rfl ?_
      obtain ⟨g13, h⟩ := gd_some h
      refine k9_ic_eq fX10_newName_26 rfl g13 ⟨by decide, by decide⟩ (fun c12 => ?_) (fun c12 => ?_)
      · replace h := ite_t (c12) h
        replace h := lt_some h
        refine k9_iinc fX10_newName_38 rfl (Nat.le_of_ble_eq_true rfl) rfl ?_
        refine k9_goto fX10_newName_41 rfl ?_
        cases h
        exact h0 rfl
      · replace h := ite_f (c12) h
        refine t_l fX10_newName_29 rfl rfl rfl rfl ?_
        refine t_s fX10_newName_30 rfl rfl rfl ?_
        refine t_l fX10_newName_31 rfl rfl rfl rfl ?_
        refine k9_gi fX10_newName_32 (hr0).1 kg_10_35 ?_
        obtain ⟨V15, v16, e17, h⟩ := bd_some h
        refine kcX10_fail fX10_newName_35 (hr0).1 rfl (q_X10_fail (hr0) e17) (by decide) ?_
        replace h := lt_some h
        refine k9_iinc fX10_newName_38 rfl (Nat.le_of_ble_eq_true rfl) rfl ?_
        refine k9_goto fX10_newName_41 rfl ?_
        cases h
        exact h0 rfl

theorem tl_X10_newName_7 {X : mX} {n z : Nat} {G : mG} {r0 : Nat} (hr0 : is10 G r0) {x1 x3 : Int} {V V' : mV} {fu : Nat} {q : Nat × Int} {Q : Nat → Nat → mG → mV → Option Value → Prop} (k1 : q.1 = 1 → T X (4) 177 44 [some (.ref r0), some (.long (lI x1)), none, some (.int (iI q.2))] [] n z G V' Q) (h : lp (fun (s : Int) V => B_X10_newName_7 G r0 x1 s V) fu x3 V = some (V', q)) : T X (4) 177 7 [some (.ref r0), some (.long (lI x1)), none, some (.int (iI x3))] [] n z G V Q :=
  lp_go (P0 := fun s V => T X (4) 177 7 [some (.ref r0), some (.long (lI x1)), none, some (.int (iI s))] [] n z G V Q) (PE := fun t s V => (t = 1 → T X (4) 177 44 [some (.ref r0), some (.long (lI x1)), none, some (.int (iI s))] [] n z G V Q)) (fun s V V' q hb h0 h1 => tb_X10_newName_7 hr0  h0 (fun e => (h1 (by omega)) e) hb) fu x3 V V' q h k1

theorem q_X10_newName {X : mX} {n z : Nat} {G : mG} {r0 : Nat} (hr0 : is10 G r0) {V V' : mV} {v : Int} (h : F_X10_newName G r0 V = some (V', v)) : Rn X (4) 177 [.ref r0] n z G V n z G V' (some (.long (lI v))) := by
  refine qj_toR (v := v) (L := [some (.ref r0), none, none, none]) rfl ?_
  unfold F_X10_newName at h
  refine t_l fX10_newName_0 rfl rfl rfl rfl ?_
  obtain ⟨V1, v2, e3, h⟩ := bd_some h
  refine kcX10_name fX10_newName_1 (hr0).1 rfl (q_X10_name (hr0) e3) (by decide) ?_
  refine t_l fX10_newName_4 rfl rfl rfl rfl ?_
  refine t_s fX10_newName_5 rfl rfl rfl ?_
  refine t_l fX10_newName_6 rfl rfl rfl rfl ?_
  obtain ⟨V19, u20, e21, h⟩ := bd_some h
  refine tl_X10_newName_7 hr0  (fun e22 => ?_) e21
  refine t_l fX10_newName_44 rfl rfl rfl rfl ?_
  refine t_ret fX10_newName_45 rX10_newName ?_
  exact qf_j h

theorem tj_X10_oneOf_J35 {X : mX} {n z : Nat} {G : mG} {r0 : Nat} (hr0 : is10 G r0) {x1 x4 : Int} {j2 j3 : Option Value} {V V' : mV} {v : Int} (h : F_X10_oneOf_J35 G r0 x1 x4 V = some (V', v)) : T X (4) 178 35 [some (.ref r0), some (.int (iI x1)), j2, j3, some (.int (iI x4))] [] n z G V (qi n z G V' v) := by
  unfold F_X10_oneOf_J35 at h
  refine t_l fX10_oneOf_35 rfl rfl rfl rfl ?_
  refine k9_gi fX10_oneOf_36 (hr0).1 kg_10_5 ?_
  obtain ⟨g10, h⟩ := gd_some h
  refine k9_if_ne fX10_oneOf_39 rfl g10 (fun c9 => ?_) (fun c9 => ?_)
  · replace h := ite_f (c9) h
    refine t_s fX10_oneOf_47 rfl rfl rfl ?_
    refine t_ret fX10_oneOf_48 rX10_oneOf ?_
    exact qf_i h
  · replace h := ite_t (Classical.not_not.mp c9) h
    refine t_l fX10_oneOf_42 rfl rfl rfl rfl ?_
    refine k9_goto fX10_oneOf_44 rfl ?_
    refine t_ret fX10_oneOf_48 rX10_oneOf ?_
    exact qf_i h

theorem q_X10_oneOf {X : mX} {n z : Nat} {G : mG} {r0 : Nat} (hr0 : is10 G r0) {x1 : Int} {V V' : mV} {v : Int} (h : F_X10_oneOf G r0 x1 V = some (V', v)) : Rn X (4) 178 [.ref r0, .int (iI x1)] n z G V n z G V' (some (.int (iI v))) := by
  refine qi_toR (v := v) (L := [some (.ref r0), some (.int (iI x1)), none, none, none]) rfl ?_
  unfold F_X10_oneOf at h
  refine t_l fX10_oneOf_0 rfl rfl rfl rfl ?_
  obtain ⟨V1, v2, e3, h⟩ := bd_some h
  refine kcX10_name fX10_oneOf_1 (hr0).1 rfl (q_X10_name (hr0) e3) (by decide) ?_
  refine t_l fX10_oneOf_4 rfl rfl rfl rfl ?_
  refine t_l fX10_oneOf_5 rfl rfl rfl rfl ?_
  refine t_l fX10_oneOf_6 rfl rfl rfl rfl ?_
  refine t_l fX10_oneOf_7 rfl rfl rfl rfl ?_
  obtain ⟨V4, v5, e6, h⟩ := bd_some h
  refine kcX10_nameOf fX10_oneOf_8 (hr0).1 rfl (q_X10_nameOf (hr0) e6) (by decide) ?_
  refine t_l fX10_oneOf_11 rfl rfl rfl rfl ?_
  refine t_l fX10_oneOf_13 rfl rfl rfl rfl ?_
  refine k9_gi fX10_oneOf_14 (hr0).1 kg_10_5 ?_
  obtain ⟨g8, h⟩ := gd_some h
  refine k9_if_ne fX10_oneOf_17 rfl g8 (fun c7 => ?_) (fun c7 => ?_)
  · replace h := ite_f (c7) h
    exact tj_X10_oneOf_J35 hr0   h
  · replace h := ite_t (Classical.not_not.mp c7) h
    refine t_l fX10_oneOf_20 rfl rfl rfl rfl ?_
    refine t_s fX10_oneOf_22 rfl rfl rfl ?_
    obtain ⟨g12, h⟩ := gd_some h
    refine k9_ic_ne fX10_oneOf_23 rfl g12 ⟨by decide, by decide⟩ (fun c11 => ?_) (fun c11 => ?_)
    · replace h := ite_f (c11) h
      exact tj_X10_oneOf_J35 hr0   h
    · replace h := ite_t (Classical.not_not.mp c11) h
      refine t_l fX10_oneOf_26 rfl rfl rfl rfl ?_
      refine t_s fX10_oneOf_27 rfl rfl rfl ?_
      refine t_l fX10_oneOf_28 rfl rfl rfl rfl ?_
      refine k9_gi fX10_oneOf_29 (hr0).1 kg_10_35 ?_
      obtain ⟨V13, v14, e15, h⟩ := bd_some h
      refine kcX10_fail fX10_oneOf_32 (hr0).1 rfl (q_X10_fail (hr0) e15) (by decide) ?_
      exact tj_X10_oneOf_J35 hr0   h

theorem tj_X10_personTold_J111_81 {X : mX} {n z : Nat} {G : mG} {r0 : Nat} (hr0 : is10 G r0) {x1 x2 x6 s1 s2 : Int} {j3 j4 j5 : Option Value} {V V' : mV} {q : Nat × Int} {Q : Nat → Nat → mG → mV → Option Value → Prop} (h0 : q.1 = 0 → ∀ j3 j4 j5 : Option Value, T X (5) 179 81 [some (.ref r0), some (.int (iI x1)), some (.int (iI x2)), j3, j4, j5, some (.int (iI q.2))] [] n z G V' Q) (h1 : q.1 = 1 → ∀ j2 j3 j4 j5 : Option Value, T X (5) 179 142 [some (.ref r0), some (.int (iI x1)), j2, j3, j4, j5, some (.int (iI q.2))] [] n z G V' Q) (h : F_X10_personTold_J111_81 G r0 x1 x2 x6 s1 s2 V = some (V', q)) : T X (5) 179 111 [some (.ref r0), some (.int (iI x1)), some (.int (iI x2)), j3, j4, j5, some (.int (iI x6))] [.int (iI s2), .int (iI s1), .ref (r0 + 33)] n z G V Q := by
  unfold F_X10_personTold_J111_81 at h
  obtain ⟨g28, h⟩ := gd_some h
  refine k9_is fX10_personTold_111 (s10_42s hr0) g28.1 g28.2.1 g28.2.2 ?_
  replace h := lt_some h
  refine t_l fX10_personTold_112 rfl rfl rfl rfl ?_
  refine k9_gr fX10_personTold_113 (hr0).1 kg_10_42 (s10_42r hr0) ?_
  refine t_s fX10_personTold_116 rfl rfl rfl ?_
  refine t_l fX10_personTold_118 rfl rfl rfl rfl ?_
  refine k9_imul fX10_personTold_120 ?_
  refine t_l fX10_personTold_121 rfl rfl rfl rfl ?_
  refine k9_iadd fX10_personTold_122 ?_
  refine t_l fX10_personTold_123 rfl rfl rfl rfl ?_
  refine t_l fX10_personTold_125 rfl rfl rfl rfl ?_
  obtain ⟨g31, h⟩ := gd_some h
  obtain ⟨g32, h⟩ := gd_some h
  refine k9_ic_ne fX10_personTold_126 rfl g31 g32 (fun c30 => ?_) (fun c30 => ?_)
  · replace h := ite_f (c30) h
    refine t_s fX10_personTold_134 rfl rfl rfl ?_
    obtain ⟨g33, h⟩ := gd_some h
    refine k9_is fX10_personTold_135 (s10_42s hr0) g33.1 g33.2.1 g33.2.2 ?_
    replace h := lt_some h
    replace h := lt_some h
    refine k9_iinc fX10_personTold_136 rfl (Nat.le_of_ble_eq_true rfl) rfl ?_
    refine k9_goto fX10_personTold_139 rfl ?_
    cases h
    exact h0 rfl _ _ _
  · replace h := ite_t (Classical.not_not.mp c30) h
    refine t_s fX10_personTold_129 rfl rfl rfl ?_
    refine k9_goto fX10_personTold_131 rfl ?_
    obtain ⟨g36, h⟩ := gd_some h
    refine k9_is fX10_personTold_135 (s10_42s hr0) g36.1 g36.2.1 g36.2.2 ?_
    replace h := lt_some h
    replace h := lt_some h
    refine k9_iinc fX10_personTold_136 rfl (Nat.le_of_ble_eq_true rfl) rfl ?_
    refine k9_goto fX10_personTold_139 rfl ?_
    cases h
    exact h0 rfl _ _ _

theorem tb_X10_personTold_81 {X : mX} {n z : Nat} {G : mG} {r0 : Nat} (hr0 : is10 G r0) {x1 x2 x6 : Int} {j3 j4 j5 : Option Value} {V V' : mV} {q : Nat × Int} {Q : Nat → Nat → mG → mV → Option Value → Prop} (h0 : q.1 = 0 → ∀ j3 j4 j5 : Option Value, T X (5) 179 81 [some (.ref r0), some (.int (iI x1)), some (.int (iI x2)), j3, j4, j5, some (.int (iI q.2))] [] n z G V' Q) (h1 : q.1 = 1 → ∀ j2 j3 j4 j5 : Option Value, T X (5) 179 142 [some (.ref r0), some (.int (iI x1)), j2, j3, j4, j5, some (.int (iI q.2))] [] n z G V' Q) (h : B_X10_personTold_81 G r0 x1 x2 x6 V = some (V', q)) : T X (5) 179 81 [some (.ref r0), some (.int (iI x1)), some (.int (iI x2)), j3, j4, j5, some (.int (iI x6))] [] n z G V Q := by
  unfold B_X10_personTold_81 at h
  refine t_l fX10_personTold_81 rfl rfl rfl rfl ?_
  refine t_s fX10_personTold_83 rfl rfl rfl ?_
  obtain ⟨g25, h⟩ := gd_some h
  refine k9_ic_ge fX10_personTold_85 rfl g25 ⟨by decide, by decide⟩ (fun c24 => ?_) (fun c24 => ?_)
  · replace h := ite_t (c24) h
    cases h
    exact h1 rfl _ _ _ _
  · replace h := ite_f (c24) h
    refine t_l fX10_personTold_88 rfl rfl rfl rfl ?_
    refine k9_gr fX10_personTold_89 (hr0).1 kg_10_42 (s10_42r hr0) ?_
    refine t_s fX10_personTold_92 rfl rfl rfl ?_
    refine t_l fX10_personTold_94 rfl rfl rfl rfl ?_
    refine k9_imul fX10_personTold_95 ?_
    refine t_l fX10_personTold_96 rfl rfl rfl rfl ?_
    refine k9_iadd fX10_personTold_98 ?_
    refine t_l fX10_personTold_99 rfl rfl rfl rfl ?_
    refine t_l fX10_personTold_101 rfl rfl rfl rfl ?_
    obtain ⟨g27, h⟩ := gd_some h
    refine k9_ic_ne fX10_personTold_102 rfl g25 g27 (fun c26 => ?_) (fun c26 => ?_)
    · replace h := ite_f (c26) h
      refine t_s fX10_personTold_110 rfl rfl rfl ?_
      exact tj_X10_personTold_J111_81 hr0  h0 h1 h
    · replace h := ite_t (Classical.not_not.mp c26) h
      refine t_s fX10_personTold_105 rfl rfl rfl ?_
      refine k9_goto fX10_personTold_107 rfl ?_
      exact tj_X10_personTold_J111_81 hr0  h0 h1 h

theorem tl_X10_personTold_81 {X : mX} {n z : Nat} {G : mG} {r0 : Nat} (hr0 : is10 G r0) {x1 x2 x6 : Int} {j3 j4 j5 : Option Value} {V V' : mV} {fu : Nat} {q : Nat × Int} {Q : Nat → Nat → mG → mV → Option Value → Prop} (k1 : q.1 = 1 → ∀ j2 j3 j4 j5 : Option Value, T X (5) 179 142 [some (.ref r0), some (.int (iI x1)), j2, j3, j4, j5, some (.int (iI q.2))] [] n z G V' Q) (h : lp (fun (s : Int) V => B_X10_personTold_81 G r0 x1 x2 s V) fu x6 V = some (V', q)) : T X (5) 179 81 [some (.ref r0), some (.int (iI x1)), some (.int (iI x2)), j3, j4, j5, some (.int (iI x6))] [] n z G V Q :=
  lp_go (P0 := fun s V => ∀ j3 j4 j5 : Option Value, T X (5) 179 81 [some (.ref r0), some (.int (iI x1)), some (.int (iI x2)), j3, j4, j5, some (.int (iI s))] [] n z G V Q) (PE := fun t s V => (t = 1 → ∀ j2 j3 j4 j5 : Option Value, T X (5) 179 142 [some (.ref r0), some (.int (iI x1)), j2, j3, j4, j5, some (.int (iI s))] [] n z G V Q)) (fun s V V' q hb h0 h1 => fun _ _ _ => tb_X10_personTold_81 hr0  h0 (fun e => (h1 (by omega)) e) hb) fu x6 V V' q h k1 _ _ _

theorem q_X10_personTold {X : mX} {n z : Nat} {G : mG} {r0 : Nat} (hr0 : is10 G r0) {x1 : Int} {V V' : mV} {v : Int} (h : F_X10_personTold G r0 x1 V = some (V', v)) : Rn X (5) 179 [.ref r0, .int (iI x1)] n z G V n z G V' none := by
  refine qv_toR (v := v) (L := [some (.ref r0), some (.int (iI x1)), none, none, none, none, none]) rfl ?_
  unfold F_X10_personTold at h
  refine t_l fX10_personTold_0 rfl rfl rfl rfl ?_
  refine t_s fX10_personTold_1 rfl rfl rfl ?_
  refine t_s fX10_personTold_2 rfl rfl rfl ?_
  refine t_l fX10_personTold_4 rfl rfl rfl rfl ?_
  obtain ⟨V1, v2, e3, h⟩ := bd_some h
  refine kcX10_isFull fX10_personTold_5 (hr0).1 rfl (q_X10_isFull (hr0) e3) (by decide) ?_
  obtain ⟨g5, h⟩ := gd_some h
  refine k9_if_eq fX10_personTold_8 rfl g5 (fun c4 => ?_) (fun c4 => ?_)
  · replace h := ite_t (c4) h
    refine t_l fX10_personTold_12 rfl rfl rfl rfl ?_
    refine k9_gr fX10_personTold_13 (hr0).1 kg_10_36 (s10_36r hr0) ?_
    refine t_s fX10_personTold_16 rfl rfl rfl ?_
    refine k9_ia fX10_personTold_17 (s10_36s hr0) (by decide) (by decide) (by decide) ?_
    replace h := lt_some h
    refine t_l fX10_personTold_18 rfl rfl rfl rfl ?_
    refine t_l fX10_personTold_19 rfl rfl rfl rfl ?_
    obtain ⟨V7, v8, e9, h⟩ := bd_some h
    refine kcX10_newName fX10_personTold_20 (hr0).1 rfl (q_X10_newName (hr0) e9) (by decide) ?_
    refine t_l fX10_personTold_23 rfl rfl rfl rfl ?_
    refine t_l fX10_personTold_24 rfl rfl rfl rfl ?_
    refine t_l fX10_personTold_25 rfl rfl rfl rfl ?_
    refine k9_gr fX10_personTold_26 (hr0).1 kg_10_12 (s10_12r hr0) ?_
    obtain ⟨V10, v11, e12, h⟩ := bd_some h
    refine kcX10_asks fX10_personTold_29 (hr0).1 rfl rfl (q_X10_asks (hr0) (qGf (s10_12s hr0)) e12) (by decide) ?_
    refine t_l fX10_personTold_32 rfl rfl rfl rfl ?_
    refine t_s fX10_personTold_33 rfl rfl rfl ?_
    refine t_s fX10_personTold_34 rfl rfl rfl ?_
    obtain ⟨V13, v14, e15, h⟩ := bd_some h
    refine kcX10_number fX10_personTold_36 (hr0).1 rfl (q_X10_number (hr0) e15) (by decide) ?_
    refine t_l fX10_personTold_39 rfl rfl rfl rfl ?_
    refine t_l fX10_personTold_41 rfl rfl rfl rfl ?_
    refine k9_gi fX10_personTold_42 (hr0).1 kg_10_5 ?_
    obtain ⟨g17, h⟩ := gd_some h
    refine k9_if_eq fX10_personTold_45 rfl g17 (fun c16 => ?_) (fun c16 => ?_)
    · replace h := ite_t (c16) h
      refine t_l fX10_personTold_49 rfl rfl rfl rfl ?_
      refine k9_gr fX10_personTold_50 (hr0).1 kg_10_37 (s10_37r hr0) ?_
      refine t_l fX10_personTold_53 rfl rfl rfl rfl ?_
      refine t_l fX10_personTold_54 rfl rfl rfl rfl ?_
      obtain ⟨g18, h⟩ := gd_some h
      refine k9_ls fX10_personTold_55 (s10_37s hr0) g18.1 g18.2.1 g18.2.2 ?_
      replace h := lt_some h
      refine t_l fX10_personTold_56 rfl rfl rfl rfl ?_
      refine k9_gr fX10_personTold_57 (hr0).1 kg_10_38 (s10_38r hr0) ?_
      refine t_l fX10_personTold_60 rfl rfl rfl rfl ?_
      refine t_l fX10_personTold_61 rfl rfl rfl rfl ?_
      refine k9_is fX10_personTold_63 (s10_38s hr0) g18.1 g18.2.1 g18.2.2 ?_
      replace h := lt_some h
      refine t_l fX10_personTold_64 rfl rfl rfl rfl ?_
      refine k9_gr fX10_personTold_65 (hr0).1 kg_10_40 (s10_40r hr0) ?_
      refine t_l fX10_personTold_68 rfl rfl rfl rfl ?_
      refine t_s fX10_personTold_69 rfl rfl rfl ?_
      obtain ⟨g21, h⟩ := gd_some h
      refine k9_is fX10_personTold_70 (s10_40s hr0) g21.1 g21.2.1 g21.2.2 ?_
      replace h := lt_some h
      refine t_l fX10_personTold_71 rfl rfl rfl rfl ?_
      refine k9_gr fX10_personTold_72 (hr0).1 kg_10_41 (s10_41r hr0) ?_
      refine t_l fX10_personTold_75 rfl rfl rfl rfl ?_
      refine t_s fX10_personTold_76 rfl rfl rfl ?_
      refine k9_is fX10_personTold_77 (s10_41s hr0) g21.1 g21.2.1 g21.2.2 ?_
      replace h := lt_some h
      refine t_s fX10_personTold_78 rfl rfl rfl ?_
      refine t_l fX10_personTold_79 rfl rfl rfl rfl ?_
      obtain ⟨V39, u40, e41, h⟩ := bd_some h
      refine tl_X10_personTold_81 hr0  (fun e42 j2 j3 j4 j5 => ?_) e41
      refine t_l fX10_personTold_142 rfl rfl rfl rfl ?_
      refine k9_gr fX10_personTold_143 (hr0).1 kg_10_36 (s10_36r hr0) ?_
      refine t_s fX10_personTold_146 rfl rfl rfl ?_
      refine t_s fX10_personTold_147 rfl rfl rfl ?_
      refine k9_ia fX10_personTold_148 (s10_36s hr0) (by decide) (by decide) (by decide) ?_
      refine t_s fX10_personTold_149 rfl rfl rfl ?_
      refine k9_iadd fX10_personTold_150 ?_
      refine k9_is fX10_personTold_151 (s10_36s hr0) (by decide) (by decide) (by decide) ?_
      replace h := lt_some h
      refine t_ret fX10_personTold_152 rX10_personTold ?_
      exact qf_v h
    · replace h := ite_f (c16) h
      refine t_ret fX10_personTold_48 rX10_personTold ?_
      exact qf_v h
  · replace h := ite_f (c4) h
    refine t_ret fX10_personTold_11 rX10_personTold ?_
    exact qf_v h

theorem q_X10_taskTold {X : mX} {n z : Nat} {G : mG} {r0 : Nat} (hr0 : is10 G r0) {x1 : Int} {V V' : mV} {v : Int} (h : F_X10_taskTold G r0 x1 V = some (V', v)) : Rn X (5) 180 [.ref r0, .int (iI x1)] n z G V n z G V' none := by
  refine qv_toR (v := v) (L := [some (.ref r0), some (.int (iI x1)), none, none, none]) rfl ?_
  unfold F_X10_taskTold at h
  refine t_l fX10_taskTold_0 rfl rfl rfl rfl ?_
  refine t_s fX10_taskTold_1 rfl rfl rfl ?_
  refine t_s fX10_taskTold_2 rfl rfl rfl ?_
  refine t_l fX10_taskTold_4 rfl rfl rfl rfl ?_
  obtain ⟨V1, v2, e3, h⟩ := bd_some h
  refine kcX10_isFull fX10_taskTold_5 (hr0).1 rfl (q_X10_isFull (hr0) e3) (by decide) ?_
  obtain ⟨g5, h⟩ := gd_some h
  refine k9_if_eq fX10_taskTold_8 rfl g5 (fun c4 => ?_) (fun c4 => ?_)
  · replace h := ite_t (c4) h
    refine t_l fX10_taskTold_12 rfl rfl rfl rfl ?_
    obtain ⟨V6, v7, e8, h⟩ := bd_some h
    refine kcX10_newName fX10_taskTold_13 (hr0).1 rfl (q_X10_newName (hr0) e8) (by decide) ?_
    refine t_l fX10_taskTold_16 rfl rfl rfl rfl ?_
    refine t_l fX10_taskTold_17 rfl rfl rfl rfl ?_
    refine t_l fX10_taskTold_18 rfl rfl rfl rfl ?_
    refine k9_gr fX10_taskTold_19 (hr0).1 kg_10_14 (s10_14r hr0) ?_
    obtain ⟨V9, v10, e11, h⟩ := bd_some h
    refine kcX10_asks fX10_taskTold_22 (hr0).1 rfl rfl (q_X10_asks (hr0) (qGf (s10_14s hr0)) e11) (by decide) ?_
    refine t_l fX10_taskTold_25 rfl rfl rfl rfl ?_
    refine t_s fX10_taskTold_26 rfl rfl rfl ?_
    refine t_s fX10_taskTold_27 rfl rfl rfl ?_
    obtain ⟨V12, v13, e14, h⟩ := bd_some h
    refine kcX10_number fX10_taskTold_29 (hr0).1 rfl (q_X10_number (hr0) e14) (by decide) ?_
    refine t_l fX10_taskTold_32 rfl rfl rfl rfl ?_
    refine t_l fX10_taskTold_34 rfl rfl rfl rfl ?_
    refine k9_gi fX10_taskTold_35 (hr0).1 kg_10_5 ?_
    obtain ⟨g16, h⟩ := gd_some h
    refine k9_if_eq fX10_taskTold_38 rfl g16 (fun c15 => ?_) (fun c15 => ?_)
    · replace h := ite_t (c15) h
      refine t_l fX10_taskTold_42 rfl rfl rfl rfl ?_
      refine k9_gr fX10_taskTold_43 (hr0).1 kg_10_37 (s10_37r hr0) ?_
      refine t_s fX10_taskTold_46 rfl rfl rfl ?_
      refine t_l fX10_taskTold_48 rfl rfl rfl rfl ?_
      refine k9_gr fX10_taskTold_49 (hr0).1 kg_10_36 (s10_36r hr0) ?_
      refine t_s fX10_taskTold_52 rfl rfl rfl ?_
      refine k9_ia fX10_taskTold_53 (s10_36s hr0) (by decide) (by decide) (by decide) ?_
      refine k9_iadd fX10_taskTold_54 ?_
      refine t_l fX10_taskTold_55 rfl rfl rfl rfl ?_
      obtain ⟨g17, h⟩ := gd_some h
      refine k9_ls fX10_taskTold_56 (s10_37s hr0) g17.1 g17.2.1 g17.2.2 ?_
      replace h := lt_some h
      refine t_l fX10_taskTold_57 rfl rfl rfl rfl ?_
      refine k9_gr fX10_taskTold_58 (hr0).1 kg_10_38 (s10_38r hr0) ?_
      refine t_s fX10_taskTold_61 rfl rfl rfl ?_
      refine t_l fX10_taskTold_63 rfl rfl rfl rfl ?_
      refine k9_gr fX10_taskTold_64 (hr0).1 kg_10_36 (s10_36r hr0) ?_
      refine t_s fX10_taskTold_67 rfl rfl rfl ?_
      refine k9_ia fX10_taskTold_68 (s10_36s hr0) (by decide) (by decide) (by decide) ?_
      refine k9_iadd fX10_taskTold_69 ?_
      refine t_l fX10_taskTold_70 rfl rfl rfl rfl ?_
      obtain ⟨g19, h⟩ := gd_some h
      refine k9_is fX10_taskTold_72 (s10_38s hr0) g19.1 g19.2.1 g19.2.2 ?_
      replace h := lt_some h
      refine t_l fX10_taskTold_73 rfl rfl rfl rfl ?_
      refine k9_gr fX10_taskTold_74 (hr0).1 kg_10_36 (s10_36r hr0) ?_
      refine t_s fX10_taskTold_77 rfl rfl rfl ?_
      refine t_s fX10_taskTold_78 rfl rfl rfl ?_
      refine k9_ia fX10_taskTold_79 (s10_36s hr0) (by decide) (by decide) (by decide) ?_
      refine t_s fX10_taskTold_80 rfl rfl rfl ?_
      refine k9_iadd fX10_taskTold_81 ?_
      refine k9_is fX10_taskTold_82 (s10_36s hr0) (by decide) (by decide) (by decide) ?_
      replace h := lt_some h
      refine t_ret fX10_taskTold_83 rX10_taskTold ?_
      exact qf_v h
    · replace h := ite_f (c15) h
      refine t_ret fX10_taskTold_41 rX10_taskTold ?_
      exact qf_v h
  · replace h := ite_f (c4) h
    refine t_ret fX10_taskTold_11 rX10_taskTold ?_
    exact qf_v h

theorem tb_X10_dutyTold_44 {X : mX} {n z : Nat} {G : mG} {r0 : Nat} (hr0 : is10 G r0) {x1 x2 x3 x4 x5 : Int} {V V' : mV} {q : Nat × Int} {Q : Nat → Nat → mG → mV → Option Value → Prop} (h0 : q.1 = 0 → T X (5) 181 44 [some (.ref r0), some (.int (iI x1)), some (.int (iI x2)), some (.int (iI x3)), some (.int (iI x4)), some (.int (iI q.2))] [] n z G V' Q) (h1 : q.1 = 1 → T X (5) 181 121 [some (.ref r0), some (.int (iI x1)), some (.int (iI x2)), some (.int (iI x3)), some (.int (iI x4)), some (.int (iI q.2))] [] n z G V' Q) (h : B_X10_dutyTold_44 G r0 x1 x2 x3 x4 x5 V = some (V', q)) : T X (5) 181 44 [some (.ref r0), some (.int (iI x1)), some (.int (iI x2)), some (.int (iI x3)), some (.int (iI x4)), some (.int (iI x5))] [] n z G V Q := by
  unfold B_X10_dutyTold_44 at h
  refine t_l fX10_dutyTold_44 rfl rfl rfl rfl ?_
  refine t_l fX10_dutyTold_46 rfl rfl rfl rfl ?_
  refine k9_gr fX10_dutyTold_47 (hr0).1 kg_10_36 (s10_36r hr0) ?_
  refine t_s fX10_dutyTold_50 rfl rfl rfl ?_
  refine k9_ia fX10_dutyTold_51 (s10_36s hr0) (by decide) (by decide) (by decide) ?_
  obtain ⟨g19, h⟩ := gd_some h
  obtain ⟨g20, h⟩ := gd_some h
  refine k9_ic_ge fX10_dutyTold_52 rfl g19 g20 (fun c18 => ?_) (fun c18 => ?_)
  · replace h := ite_t (c18) h
    cases h
    exact h1 rfl
  · replace h := ite_f (c18) h
    refine t_l fX10_dutyTold_55 rfl rfl rfl rfl ?_
    refine k9_gi fX10_dutyTold_56 (hr0).1 kg_10_5 ?_
    obtain ⟨g22, h⟩ := gd_some h
    refine k9_if_ne fX10_dutyTold_59 rfl g22 (fun c21 => ?_) (fun c21 => ?_)
    · replace h := ite_f (c21) h
      replace h := lt_some h
      refine k9_iinc fX10_dutyTold_115 rfl (Nat.le_of_ble_eq_true rfl) rfl ?_
      refine k9_goto fX10_dutyTold_118 rfl ?_
      cases h
      exact h0 rfl
    · replace h := ite_t (Classical.not_not.mp c21) h
      refine t_l fX10_dutyTold_62 rfl rfl rfl rfl ?_
      refine k9_gr fX10_dutyTold_63 (hr0).1 kg_10_39 (s10_39r hr0) ?_
      refine t_s fX10_dutyTold_66 rfl rfl rfl ?_
      refine t_l fX10_dutyTold_67 rfl rfl rfl rfl ?_
      refine k9_imul fX10_dutyTold_69 ?_
      obtain ⟨g24, h⟩ := gd_some h
      refine k9_ia fX10_dutyTold_70 (s10_39s hr0) g24.1 g24.2.1 g24.2.2 ?_
      refine t_l fX10_dutyTold_71 rfl rfl rfl rfl ?_
      obtain ⟨g26, h⟩ := gd_some h
      obtain ⟨g27, h⟩ := gd_some h
      refine k9_ic_ne fX10_dutyTold_72 rfl g26 g27 (fun c25 => ?_) (fun c25 => ?_)
      · replace h := ite_f (c25) h
        replace h := lt_some h
        refine k9_iinc fX10_dutyTold_115 rfl (Nat.le_of_ble_eq_true rfl) rfl ?_
        refine k9_goto fX10_dutyTold_118 rfl ?_
        cases h
        exact h0 rfl
      · replace h := ite_t (Classical.not_not.mp c25) h
        refine t_l fX10_dutyTold_75 rfl rfl rfl rfl ?_
        refine k9_gr fX10_dutyTold_76 (hr0).1 kg_10_39 (s10_39r hr0) ?_
        refine t_s fX10_dutyTold_79 rfl rfl rfl ?_
        refine t_l fX10_dutyTold_80 rfl rfl rfl rfl ?_
        refine k9_imul fX10_dutyTold_82 ?_
        refine t_s fX10_dutyTold_83 rfl rfl rfl ?_
        refine k9_iadd fX10_dutyTold_84 ?_
        obtain ⟨g29, h⟩ := gd_some h
        refine k9_ia fX10_dutyTold_85 (s10_39s hr0) g29.1 g29.2.1 g29.2.2 ?_
        refine t_l fX10_dutyTold_86 rfl rfl rfl rfl ?_
        obtain ⟨g31, h⟩ := gd_some h
        obtain ⟨g32, h⟩ := gd_some h
        refine k9_ic_ne fX10_dutyTold_87 rfl g31 g32 (fun c30 => ?_) (fun c30 => ?_)
        · replace h := ite_f (c30) h
          replace h := lt_some h
          refine k9_iinc fX10_dutyTold_115 rfl (Nat.le_of_ble_eq_true rfl) rfl ?_
          refine k9_goto fX10_dutyTold_118 rfl ?_
          cases h
          exact h0 rfl
        · replace h := ite_t (Classical.not_not.mp c30) h
          refine t_l fX10_dutyTold_90 rfl rfl rfl rfl ?_
          refine k9_gr fX10_dutyTold_91 (hr0).1 kg_10_39 (s10_39r hr0) ?_
          refine t_s fX10_dutyTold_94 rfl rfl rfl ?_
          refine t_l fX10_dutyTold_95 rfl rfl rfl rfl ?_
          refine k9_imul fX10_dutyTold_97 ?_
          refine t_s fX10_dutyTold_98 rfl rfl rfl ?_
          refine k9_iadd fX10_dutyTold_99 ?_
          obtain ⟨g34, h⟩ := gd_some h
          refine k9_ia fX10_dutyTold_100 (s10_39s hr0) g34.1 g34.2.1 g34.2.2 ?_
          refine t_l fX10_dutyTold_101 rfl rfl rfl rfl ?_
          obtain ⟨g36, h⟩ := gd_some h
          obtain ⟨g37, h⟩ := gd_some h
          refine k9_ic_ne fX10_dutyTold_103 rfl g36 g37 (fun c35 => ?_) (fun c35 => ?_)
          · replace h := ite_f (c35) h
            replace h := lt_some h
            refine k9_iinc fX10_dutyTold_115 rfl (Nat.le_of_ble_eq_true rfl) rfl ?_
            refine k9_goto fX10_dutyTold_118 rfl ?_
            cases h
            exact h0 rfl
          · replace h := ite_t (Classical.not_not.mp c35) h
            refine t_l fX10_dutyTold_106 rfl rfl rfl rfl ?_
            refine t_s fX10_dutyTold_107 rfl rfl rfl ?_
            refine t_l fX10_dutyTold_108 rfl rfl rfl rfl ?_
            refine k9_gi fX10_dutyTold_109 (hr0).1 kg_10_10 ?_
            obtain ⟨V39, v40, e41, h⟩ := bd_some h
            refine kcX10_fail fX10_dutyTold_112 (hr0).1 rfl (q_X10_fail (hr0) e41) (by decide) ?_
            replace h := lt_some h
            refine k9_iinc fX10_dutyTold_115 rfl (Nat.le_of_ble_eq_true rfl) rfl ?_
            refine k9_goto fX10_dutyTold_118 rfl ?_
            cases h
            exact h0 rfl

theorem tl_X10_dutyTold_44 {X : mX} {n z : Nat} {G : mG} {r0 : Nat} (hr0 : is10 G r0) {x1 x2 x3 x4 x5 : Int} {V V' : mV} {fu : Nat} {q : Nat × Int} {Q : Nat → Nat → mG → mV → Option Value → Prop} (k1 : q.1 = 1 → T X (5) 181 121 [some (.ref r0), some (.int (iI x1)), some (.int (iI x2)), some (.int (iI x3)), some (.int (iI x4)), some (.int (iI q.2))] [] n z G V' Q) (h : lp (fun (s : Int) V => B_X10_dutyTold_44 G r0 x1 x2 x3 x4 s V) fu x5 V = some (V', q)) : T X (5) 181 44 [some (.ref r0), some (.int (iI x1)), some (.int (iI x2)), some (.int (iI x3)), some (.int (iI x4)), some (.int (iI x5))] [] n z G V Q :=
  lp_go (P0 := fun s V => T X (5) 181 44 [some (.ref r0), some (.int (iI x1)), some (.int (iI x2)), some (.int (iI x3)), some (.int (iI x4)), some (.int (iI s))] [] n z G V Q) (PE := fun t s V => (t = 1 → T X (5) 181 121 [some (.ref r0), some (.int (iI x1)), some (.int (iI x2)), some (.int (iI x3)), some (.int (iI x4)), some (.int (iI s))] [] n z G V Q)) (fun s V V' q hb h0 h1 => tb_X10_dutyTold_44 hr0  h0 (fun e => (h1 (by omega)) e) hb) fu x5 V V' q h k1

theorem q_X10_dutyTold {X : mX} {n z : Nat} {G : mG} {r0 : Nat} (hr0 : is10 G r0) {x1 : Int} {V V' : mV} {v : Int} (h : F_X10_dutyTold G r0 x1 V = some (V', v)) : Rn X (5) 181 [.ref r0, .int (iI x1)] n z G V n z G V' none := by
  refine qv_toR (v := v) (L := [some (.ref r0), some (.int (iI x1)), none, none, none, none]) rfl ?_
  unfold F_X10_dutyTold at h
  refine t_l fX10_dutyTold_0 rfl rfl rfl rfl ?_
  refine t_s fX10_dutyTold_1 rfl rfl rfl ?_
  refine t_s fX10_dutyTold_2 rfl rfl rfl ?_
  refine t_l fX10_dutyTold_4 rfl rfl rfl rfl ?_
  obtain ⟨V1, v2, e3, h⟩ := bd_some h
  refine kcX10_isFull fX10_dutyTold_5 (hr0).1 rfl (q_X10_isFull (hr0) e3) (by decide) ?_
  obtain ⟨g5, h⟩ := gd_some h
  refine k9_if_eq fX10_dutyTold_8 rfl g5 (fun c4 => ?_) (fun c4 => ?_)
  · replace h := ite_t (c4) h
    refine t_l fX10_dutyTold_12 rfl rfl rfl rfl ?_
    refine t_s fX10_dutyTold_13 rfl rfl rfl ?_
    obtain ⟨V6, v7, e8, h⟩ := bd_some h
    refine kcX10_oneOf fX10_dutyTold_14 (hr0).1 rfl (q_X10_oneOf (hr0) e8) (by decide) ?_
    refine t_l fX10_dutyTold_17 rfl rfl rfl rfl ?_
    refine t_l fX10_dutyTold_18 rfl rfl rfl rfl ?_
    refine t_s fX10_dutyTold_19 rfl rfl rfl ?_
    obtain ⟨V9, v10, e11, h⟩ := bd_some h
    refine kcX10_oneOf fX10_dutyTold_20 (hr0).1 rfl (q_X10_oneOf (hr0) e11) (by decide) ?_
    refine t_l fX10_dutyTold_23 rfl rfl rfl rfl ?_
    refine t_l fX10_dutyTold_24 rfl rfl rfl rfl ?_
    refine t_l fX10_dutyTold_25 rfl rfl rfl rfl ?_
    refine k9_gr fX10_dutyTold_26 (hr0).1 kg_10_16 (s10_16r hr0) ?_
    obtain ⟨V12, v13, e14, h⟩ := bd_some h
    refine kcX10_asks fX10_dutyTold_29 (hr0).1 rfl rfl (q_X10_asks (hr0) (qGf (s10_16s hr0)) e14) (by decide) ?_
    refine t_l fX10_dutyTold_32 rfl rfl rfl rfl ?_
    refine t_s fX10_dutyTold_33 rfl rfl rfl ?_
    refine t_s fX10_dutyTold_34 rfl rfl rfl ?_
    obtain ⟨V15, v16, e17, h⟩ := bd_some h
    refine kcX10_number fX10_dutyTold_36 (hr0).1 rfl (q_X10_number (hr0) e17) (by decide) ?_
    refine t_l fX10_dutyTold_39 rfl rfl rfl rfl ?_
    refine t_s fX10_dutyTold_41 rfl rfl rfl ?_
    refine t_l fX10_dutyTold_42 rfl rfl rfl rfl ?_
    obtain ⟨V43, u44, e45, h⟩ := bd_some h
    refine tl_X10_dutyTold_44 hr0  (fun e46 => ?_) e45
    refine t_l fX10_dutyTold_121 rfl rfl rfl rfl ?_
    refine k9_gi fX10_dutyTold_122 (hr0).1 kg_10_5 ?_
    obtain ⟨g48, h⟩ := gd_some h
    refine k9_if_eq fX10_dutyTold_125 rfl g48 (fun c47 => ?_) (fun c47 => ?_)
    · replace h := ite_t (c47) h
      refine t_s fX10_dutyTold_129 rfl rfl rfl ?_
      refine t_l fX10_dutyTold_130 rfl rfl rfl rfl ?_
      refine k9_gr fX10_dutyTold_131 (hr0).1 kg_10_36 (s10_36r hr0) ?_
      refine t_s fX10_dutyTold_134 rfl rfl rfl ?_
      refine k9_ia fX10_dutyTold_135 (s10_36s hr0) (by decide) (by decide) (by decide) ?_
      refine k9_imul fX10_dutyTold_136 ?_
      replace h := lt_some h
      refine t_l fX10_dutyTold_137 rfl rfl rfl rfl ?_
      refine t_l fX10_dutyTold_139 rfl rfl rfl rfl ?_
      refine k9_gr fX10_dutyTold_140 (hr0).1 kg_10_39 (s10_39r hr0) ?_
      refine t_l fX10_dutyTold_143 rfl rfl rfl rfl ?_
      refine t_l fX10_dutyTold_145 rfl rfl rfl rfl ?_
      obtain ⟨g50, h⟩ := gd_some h
      refine k9_is fX10_dutyTold_146 (s10_39s hr0) g50.1 g50.2.1 g50.2.2 ?_
      replace h := lt_some h
      refine t_l fX10_dutyTold_147 rfl rfl rfl rfl ?_
      refine k9_gr fX10_dutyTold_148 (hr0).1 kg_10_39 (s10_39r hr0) ?_
      refine t_l fX10_dutyTold_151 rfl rfl rfl rfl ?_
      refine t_s fX10_dutyTold_153 rfl rfl rfl ?_
      refine k9_iadd fX10_dutyTold_154 ?_
      refine t_l fX10_dutyTold_155 rfl rfl rfl rfl ?_
      obtain ⟨g52, h⟩ := gd_some h
      refine k9_is fX10_dutyTold_156 (s10_39s hr0) g52.1 g52.2.1 g52.2.2 ?_
      replace h := lt_some h
      refine t_l fX10_dutyTold_157 rfl rfl rfl rfl ?_
      refine k9_gr fX10_dutyTold_158 (hr0).1 kg_10_39 (s10_39r hr0) ?_
      refine t_l fX10_dutyTold_161 rfl rfl rfl rfl ?_
      refine t_s fX10_dutyTold_163 rfl rfl rfl ?_
      refine k9_iadd fX10_dutyTold_164 ?_
      refine t_l fX10_dutyTold_165 rfl rfl rfl rfl ?_
      obtain ⟨g54, h⟩ := gd_some h
      refine k9_is fX10_dutyTold_167 (s10_39s hr0) g54.1 g54.2.1 g54.2.2 ?_
      replace h := lt_some h
      refine t_l fX10_dutyTold_168 rfl rfl rfl rfl ?_
      refine k9_gr fX10_dutyTold_169 (hr0).1 kg_10_36 (s10_36r hr0) ?_
      refine t_s fX10_dutyTold_172 rfl rfl rfl ?_
      refine t_s fX10_dutyTold_173 rfl rfl rfl ?_
      refine k9_ia fX10_dutyTold_174 (s10_36s hr0) (by decide) (by decide) (by decide) ?_
      refine t_s fX10_dutyTold_175 rfl rfl rfl ?_
      refine k9_iadd fX10_dutyTold_176 ?_
      refine k9_is fX10_dutyTold_177 (s10_36s hr0) (by decide) (by decide) (by decide) ?_
      replace h := lt_some h
      refine t_ret fX10_dutyTold_178 rX10_dutyTold ?_
      exact qf_v h
    · replace h := ite_f (c47) h
      refine t_ret fX10_dutyTold_128 rX10_dutyTold ?_
      exact qf_v h
  · replace h := ite_f (c4) h
    refine t_ret fX10_dutyTold_11 rX10_dutyTold ?_
    exact qf_v h

theorem tj_X10_coverTold_J69 {X : mX} {n z : Nat} {G : mG} {r0 : Nat} (hr0 : is10 G r0) {x1 x2 : Int} {V V' : mV} {v : Int} (h : F_X10_coverTold_J69 G r0 x1 x2 V = some (V', v)) : T X (5) 182 69 [some (.ref r0), some (.int (iI x1)), some (.int (iI x2))] [] n z G V (qv n z G V' v) := by
  unfold F_X10_coverTold_J69 at h
  refine t_l fX10_coverTold_69 rfl rfl rfl rfl ?_
  refine k9_gi fX10_coverTold_70 (hr0).1 kg_10_5 ?_
  obtain ⟨g12, h⟩ := gd_some h
  refine k9_if_eq fX10_coverTold_73 rfl g12 (fun c11 => ?_) (fun c11 => ?_)
  · replace h := ite_t (c11) h
    refine t_l fX10_coverTold_77 rfl rfl rfl rfl ?_
    refine k9_gr fX10_coverTold_78 (hr0).1 kg_10_40 (s10_40r hr0) ?_
    refine t_l fX10_coverTold_81 rfl rfl rfl rfl ?_
    refine t_l fX10_coverTold_82 rfl rfl rfl rfl ?_
    obtain ⟨g13, h⟩ := gd_some h
    refine k9_is fX10_coverTold_83 (s10_40s hr0) g13.1 g13.2.1 g13.2.2 ?_
    replace h := lt_some h
    refine t_l fX10_coverTold_84 rfl rfl rfl rfl ?_
    refine k9_gr fX10_coverTold_85 (hr0).1 kg_10_41 (s10_41r hr0) ?_
    refine t_l fX10_coverTold_88 rfl rfl rfl rfl ?_
    refine t_l fX10_coverTold_89 rfl rfl rfl rfl ?_
    obtain ⟨g15, h⟩ := gd_some h
    refine k9_is fX10_coverTold_90 (s10_41s hr0) g15.1 g15.2.1 g15.2.2 ?_
    replace h := lt_some h
    refine t_ret fX10_coverTold_91 rX10_coverTold ?_
    exact qf_v h
  · replace h := ite_f (c11) h
    refine t_ret fX10_coverTold_76 rX10_coverTold ?_
    exact qf_v h

theorem tj_X10_coverTold_J60 {X : mX} {n z : Nat} {G : mG} {r0 : Nat} (hr0 : is10 G r0) {x1 x2 : Int} {V V' : mV} {v : Int} (h : F_X10_coverTold_J60 G r0 x1 x2 V = some (V', v)) : T X (5) 182 60 [some (.ref r0), some (.int (iI x1)), some (.int (iI x2))] [] n z G V (qv n z G V' v) := by
  unfold F_X10_coverTold_J60 at h
  refine t_l fX10_coverTold_60 rfl rfl rfl rfl ?_
  refine t_s fX10_coverTold_61 rfl rfl rfl ?_
  refine t_l fX10_coverTold_62 rfl rfl rfl rfl ?_
  refine k9_gi fX10_coverTold_63 (hr0).1 kg_10_35 ?_
  obtain ⟨V20, v21, e22, h⟩ := bd_some h
  refine kcX10_fail fX10_coverTold_66 (hr0).1 rfl (q_X10_fail (hr0) e22) (by decide) ?_
  exact tj_X10_coverTold_J69 hr0   h

theorem tj_X10_coverTold_J32 {X : mX} {n z : Nat} {G : mG} {r0 : Nat} (hr0 : is10 G r0) {x1 : Int} {j2 : Option Value} {V V' : mV} {v : Int} (h : F_X10_coverTold_J32 G r0 x1 V = some (V', v)) : T X (5) 182 32 [some (.ref r0), some (.int (iI x1)), j2] [] n z G V (qv n z G V' v) := by
  unfold F_X10_coverTold_J32 at h
  refine t_l fX10_coverTold_32 rfl rfl rfl rfl ?_
  refine t_s fX10_coverTold_33 rfl rfl rfl ?_
  obtain ⟨V6, v7, e8, h⟩ := bd_some h
  refine kcX10_oneOf fX10_coverTold_34 (hr0).1 rfl (q_X10_oneOf (hr0) e8) (by decide) ?_
  refine t_l fX10_coverTold_37 rfl rfl rfl rfl ?_
  refine t_l fX10_coverTold_38 rfl rfl rfl rfl ?_
  refine k9_gi fX10_coverTold_39 (hr0).1 kg_10_5 ?_
  obtain ⟨g10, h⟩ := gd_some h
  refine k9_if_ne fX10_coverTold_42 rfl g10 (fun c9 => ?_) (fun c9 => ?_)
  · replace h := ite_f (c9) h
    exact tj_X10_coverTold_J69 hr0   h
  · replace h := ite_t (Classical.not_not.mp c9) h
    refine t_l fX10_coverTold_45 rfl rfl rfl rfl ?_
    refine t_l fX10_coverTold_46 rfl rfl rfl rfl ?_
    obtain ⟨g18, h⟩ := gd_some h
    obtain ⟨g19, h⟩ := gd_some h
    refine k9_ic_eq fX10_coverTold_47 rfl g18 g19 (fun c17 => ?_) (fun c17 => ?_)
    · replace h := ite_t (c17) h
      exact tj_X10_coverTold_J60 hr0   h
    · replace h := ite_f (c17) h
      refine t_l fX10_coverTold_50 rfl rfl rfl rfl ?_
      refine k9_gr fX10_coverTold_51 (hr0).1 kg_10_41 (s10_41r hr0) ?_
      refine t_l fX10_coverTold_54 rfl rfl rfl rfl ?_
      obtain ⟨g23, h⟩ := gd_some h
      refine k9_ia fX10_coverTold_55 (s10_41s hr0) g23.1 g23.2.1 g23.2.2 ?_
      refine t_s fX10_coverTold_56 rfl rfl rfl ?_
      obtain ⟨g25, h⟩ := gd_some h
      refine k9_ic_eq fX10_coverTold_57 rfl g25 ⟨by decide, by decide⟩ (fun c24 => ?_) (fun c24 => ?_)
      · replace h := ite_t (c24) h
        exact tj_X10_coverTold_J69 hr0   h
      · replace h := ite_f (c24) h
        exact tj_X10_coverTold_J60 hr0   h

theorem q_X10_coverTold {X : mX} {n z : Nat} {G : mG} {r0 : Nat} (hr0 : is10 G r0) {V V' : mV} {v : Int} (h : F_X10_coverTold G r0 V = some (V', v)) : Rn X (5) 182 [.ref r0] n z G V n z G V' none := by
  refine qv_toR (v := v) (L := [some (.ref r0), none, none]) rfl ?_
  unfold F_X10_coverTold at h
  refine t_l fX10_coverTold_0 rfl rfl rfl rfl ?_
  refine t_s fX10_coverTold_1 rfl rfl rfl ?_
  obtain ⟨V1, v2, e3, h⟩ := bd_some h
  refine kcX10_oneOf fX10_coverTold_2 (hr0).1 rfl (q_X10_oneOf (hr0) e3) (by decide) ?_
  refine t_l fX10_coverTold_5 rfl rfl rfl rfl ?_
  refine t_l fX10_coverTold_6 rfl rfl rfl rfl ?_
  refine k9_gi fX10_coverTold_7 (hr0).1 kg_10_5 ?_
  obtain ⟨g5, h⟩ := gd_some h
  refine k9_if_ne fX10_coverTold_10 rfl g5 (fun c4 => ?_) (fun c4 => ?_)
  · replace h := ite_f (c4) h
    exact tj_X10_coverTold_J32 hr0   h
  · replace h := ite_t (Classical.not_not.mp c4) h
    refine t_l fX10_coverTold_13 rfl rfl rfl rfl ?_
    refine k9_gr fX10_coverTold_14 (hr0).1 kg_10_40 (s10_40r hr0) ?_
    refine t_l fX10_coverTold_17 rfl rfl rfl rfl ?_
    obtain ⟨g26, h⟩ := gd_some h
    refine k9_ia fX10_coverTold_18 (s10_40s hr0) g26.1 g26.2.1 g26.2.2 ?_
    refine t_s fX10_coverTold_19 rfl rfl rfl ?_
    obtain ⟨g28, h⟩ := gd_some h
    refine k9_ic_eq fX10_coverTold_20 rfl g28 ⟨by decide, by decide⟩ (fun c27 => ?_) (fun c27 => ?_)
    · replace h := ite_t (c27) h
      exact tj_X10_coverTold_J32 hr0   h
    · replace h := ite_f (c27) h
      refine t_l fX10_coverTold_23 rfl rfl rfl rfl ?_
      refine t_s fX10_coverTold_24 rfl rfl rfl ?_
      refine t_l fX10_coverTold_25 rfl rfl rfl rfl ?_
      refine k9_gi fX10_coverTold_26 (hr0).1 kg_10_35 ?_
      obtain ⟨V29, v30, e31, h⟩ := bd_some h
      refine kcX10_fail fX10_coverTold_29 (hr0).1 rfl (q_X10_fail (hr0) e31) (by decide) ?_
      exact tj_X10_coverTold_J32 hr0   h

theorem tj_X10_knownTold_J33 {X : mX} {n z : Nat} {G : mG} {r0 : Nat} (hr0 : is10 G r0) {x1 x2 : Int} {j3 : Option Value} {V V' : mV} {v : Int} (h : F_X10_knownTold_J33 G r0 x1 x2 V = some (V', v)) : T X (5) 183 33 [some (.ref r0), some (.int (iI x1)), some (.int (iI x2)), j3] [] n z G V (qv n z G V' v) := by
  unfold F_X10_knownTold_J33 at h
  refine t_l fX10_knownTold_33 rfl rfl rfl rfl ?_
  refine t_s fX10_knownTold_34 rfl rfl rfl ?_
  refine t_s fX10_knownTold_35 rfl rfl rfl ?_
  obtain ⟨V9, v10, e11, h⟩ := bd_some h
  refine kcX10_number fX10_knownTold_37 (hr0).1 rfl (q_X10_number (hr0) e11) (by decide) ?_
  refine t_l fX10_knownTold_40 rfl rfl rfl rfl ?_
  refine t_l fX10_knownTold_41 rfl rfl rfl rfl ?_
  refine k9_gi fX10_knownTold_42 (hr0).1 kg_10_5 ?_
  obtain ⟨g13, h⟩ := gd_some h
  refine k9_if_ne fX10_knownTold_45 rfl g13 (fun c12 => ?_) (fun c12 => ?_)
  · replace h := ite_f (c12) h
    refine t_ret fX10_knownTold_60 rX10_knownTold ?_
    exact qf_v h
  · replace h := ite_t (Classical.not_not.mp c12) h
    refine t_l fX10_knownTold_48 rfl rfl rfl rfl ?_
    refine k9_gr fX10_knownTold_49 (hr0).1 kg_10_42 (s10_42r hr0) ?_
    refine t_s fX10_knownTold_52 rfl rfl rfl ?_
    refine t_l fX10_knownTold_54 rfl rfl rfl rfl ?_
    refine k9_imul fX10_knownTold_55 ?_
    refine t_l fX10_knownTold_56 rfl rfl rfl rfl ?_
    refine k9_iadd fX10_knownTold_57 ?_
    refine t_l fX10_knownTold_58 rfl rfl rfl rfl ?_
    obtain ⟨g14, h⟩ := gd_some h
    refine k9_is fX10_knownTold_59 (s10_42s hr0) g14.1 g14.2.1 g14.2.2 ?_
    replace h := lt_some h
    refine t_ret fX10_knownTold_60 rX10_knownTold ?_
    exact qf_v h

theorem q_X10_knownTold {X : mX} {n z : Nat} {G : mG} {r0 : Nat} (hr0 : is10 G r0) {V V' : mV} {v : Int} (h : F_X10_knownTold G r0 V = some (V', v)) : Rn X (5) 183 [.ref r0] n z G V n z G V' none := by
  refine qv_toR (v := v) (L := [some (.ref r0), none, none, none]) rfl ?_
  unfold F_X10_knownTold at h
  refine t_l fX10_knownTold_0 rfl rfl rfl rfl ?_
  refine t_s fX10_knownTold_1 rfl rfl rfl ?_
  obtain ⟨V1, v2, e3, h⟩ := bd_some h
  refine kcX10_oneOf fX10_knownTold_2 (hr0).1 rfl (q_X10_oneOf (hr0) e3) (by decide) ?_
  refine t_l fX10_knownTold_5 rfl rfl rfl rfl ?_
  refine t_l fX10_knownTold_6 rfl rfl rfl rfl ?_
  refine t_s fX10_knownTold_7 rfl rfl rfl ?_
  obtain ⟨V4, v5, e6, h⟩ := bd_some h
  refine kcX10_oneOf fX10_knownTold_8 (hr0).1 rfl (q_X10_oneOf (hr0) e6) (by decide) ?_
  refine t_l fX10_knownTold_11 rfl rfl rfl rfl ?_
  refine t_l fX10_knownTold_12 rfl rfl rfl rfl ?_
  refine k9_gi fX10_knownTold_13 (hr0).1 kg_10_5 ?_
  obtain ⟨g8, h⟩ := gd_some h
  refine k9_if_ne fX10_knownTold_16 rfl g8 (fun c7 => ?_) (fun c7 => ?_)
  · replace h := ite_f (c7) h
    exact tj_X10_knownTold_J33 hr0   h
  · replace h := ite_t (Classical.not_not.mp c7) h
    refine t_l fX10_knownTold_19 rfl rfl rfl rfl ?_
    refine t_l fX10_knownTold_20 rfl rfl rfl rfl ?_
    obtain ⟨g17, h⟩ := gd_some h
    obtain ⟨g18, h⟩ := gd_some h
    refine k9_ic_ne fX10_knownTold_21 rfl g17 g18 (fun c16 => ?_) (fun c16 => ?_)
    · replace h := ite_f (c16) h
      exact tj_X10_knownTold_J33 hr0   h
    · replace h := ite_t (Classical.not_not.mp c16) h
      refine t_l fX10_knownTold_24 rfl rfl rfl rfl ?_
      refine t_s fX10_knownTold_25 rfl rfl rfl ?_
      refine t_l fX10_knownTold_26 rfl rfl rfl rfl ?_
      refine k9_gi fX10_knownTold_27 (hr0).1 kg_10_35 ?_
      obtain ⟨V19, v20, e21, h⟩ := bd_some h
      refine kcX10_fail fX10_knownTold_30 (hr0).1 rfl (q_X10_fail (hr0) e21) (by decide) ?_
      exact tj_X10_knownTold_J33 hr0   h

theorem q_X10_qCode {X : mX} {n z : Nat} {G : mG} {r0 : Nat} (hr0 : is10 G r0) {x1 : Int} {V V' : mV} {v : Int} (h : F_X10_qCode G r0 x1 V = some (V', v)) : Rn X (0) 252 [.ref r0, .int (iI x1)] n z G V n z G V' none := by
  refine qv_toR (v := v) (L := [some (.ref r0), some (.int (iI x1))]) rfl ?_
  unfold F_X10_qCode at h
  refine t_l fX10_qCode_0 rfl rfl rfl rfl ?_
  refine k9_gr fX10_qCode_1 (hr0).1 kg_10_97 (s10_97r hr0) ?_
  refine t_l fX10_qCode_4 rfl rfl rfl rfl ?_
  refine k9_gi fX10_qCode_5 (hr0).1 kg_10_98 ?_
  refine t_l fX10_qCode_8 rfl rfl rfl rfl ?_
  obtain ⟨g1, h⟩ := gd_some h
  refine k9_is fX10_qCode_9 (s10_97s hr0) g1.1 g1.2.1 g1.2.2 ?_
  replace h := lt_some h
  refine t_l fX10_qCode_10 rfl rfl rfl rfl ?_
  refine t_s fX10_qCode_11 rfl rfl rfl ?_
  refine k9_gi fX10_qCode_12 (hr0).1 kg_10_98 ?_
  refine t_s fX10_qCode_15 rfl rfl rfl ?_
  refine k9_iadd fX10_qCode_16 ?_
  refine k9_pi fX10_qCode_17 (hr0).1 kp_10_98 ?_
  replace h := lt_some h
  refine t_ret fX10_qCode_20 rX10_qCode ?_
  exact qf_v h

theorem q_X10_qDrops {X : mX} {n z : Nat} {G : mG} {r0 : Nat} (hr0 : is10 G r0) {V V' : mV} {v : Int} (h : F_X10_qDrops G r0 V = some (V', v)) : Rn X (1) 255 [.ref r0] n z G V n z G V' none := by
  refine qv_toR (v := v) (L := [some (.ref r0)]) rfl ?_
  unfold F_X10_qDrops at h
  refine t_l fX10_qDrops_0 rfl rfl rfl rfl ?_
  refine t_s fX10_qDrops_1 rfl rfl rfl ?_
  refine k9_gi fX10_qDrops_2 (hr0).1 kg_10_100 ?_
  refine t_s fX10_qDrops_5 rfl rfl rfl ?_
  refine k9_isub fX10_qDrops_6 ?_
  refine k9_pi fX10_qDrops_7 (hr0).1 kp_10_100 ?_
  replace h := lt_some h
  refine t_l fX10_qDrops_10 rfl rfl rfl rfl ?_
  refine t_l fX10_qDrops_11 rfl rfl rfl rfl ?_
  refine k9_gr fX10_qDrops_12 (hr0).1 kg_10_99 (s10_99r hr0) ?_
  refine t_l fX10_qDrops_15 rfl rfl rfl rfl ?_
  refine k9_gi fX10_qDrops_16 (hr0).1 kg_10_100 ?_
  obtain ⟨g2, h⟩ := gd_some h
  refine k9_ia fX10_qDrops_19 (s10_99s hr0) g2.1 g2.2.1 g2.2.2 ?_
  obtain ⟨V3, v4, e5, h⟩ := bd_some h
  refine kcX10_qCode fX10_qDrops_20 (hr0).1 rfl (q_X10_qCode (hr0) e5) (by decide) ?_
  refine t_ret fX10_qDrops_23 rX10_qDrops ?_
  exact qf_v h

theorem q_X10_qIsBracket {X : mX} {n z : Nat} {G : mG}  {x0 : Int} {V V' : mV} {v : Int} (h : F_X10_qIsBracket G x0 V = some (V', v)) : Rn X (0) 256 [.int (iI x0)] n z G V n z G V' (some (.int (iI v))) := by
  refine qi_toR (v := v) (L := [some (.int (iI x0))]) rfl ?_
  unfold F_X10_qIsBracket at h
  refine t_l fX10_qIsBracket_0 rfl rfl rfl rfl ?_
  refine t_s fX10_qIsBracket_1 rfl rfl rfl ?_
  obtain ⟨g2, h⟩ := gd_some h
  refine k9_ic_lt fX10_qIsBracket_3 rfl g2 ⟨by decide, by decide⟩ (fun c1 => ?_) (fun c1 => ?_)
  · replace h := ite_t (c1) h
    refine t_s fX10_qIsBracket_16 rfl rfl rfl ?_
    refine t_ret fX10_qIsBracket_17 (rX10_qIsBracket _ (by decide)) ?_
    exact qf_i h
  · replace h := ite_f (c1) h
    refine t_l fX10_qIsBracket_6 rfl rfl rfl rfl ?_
    refine t_s fX10_qIsBracket_7 rfl rfl rfl ?_
    refine k9_ic_gt fX10_qIsBracket_9 rfl g2 ⟨by decide, by decide⟩ (fun c3 => ?_) (fun c3 => ?_)
    · replace h := ite_t (c3) h
      refine t_s fX10_qIsBracket_16 rfl rfl rfl ?_
      refine t_ret fX10_qIsBracket_17 (rX10_qIsBracket _ (by decide)) ?_
      exact qf_i h
    · replace h := ite_f (c3) h
      refine t_s fX10_qIsBracket_12 rfl rfl rfl ?_
      refine k9_goto fX10_qIsBracket_13 rfl ?_
      refine t_ret fX10_qIsBracket_17 (rX10_qIsBracket _ (by decide)) ?_
      exact qf_i h

theorem tb_X10_qBracket_7 {X : mX} {n z : Nat} {G : mG} {r0 : Nat} (hr0 : is10 G r0) {x1 : Int} {V V' : mV} {q : Nat × Int} {Q : Nat → Nat → mG → mV → Option Value → Prop} (h0 : q.1 = 0 → T X (1) 257 7 [some (.ref r0), some (.int (iI q.2))] [] n z G V' Q) (h1 : q.1 = 1 → T X (1) 257 33 [some (.ref r0), some (.int (iI q.2))] [] n z G V' Q) (h : B_X10_qBracket_7 G r0 x1 V = some (V', q)) : T X (1) 257 7 [some (.ref r0), some (.int (iI x1))] [] n z G V Q := by
  unfold B_X10_qBracket_7 at h
  refine t_l fX10_qBracket_7 rfl rfl rfl rfl ?_
  refine t_l fX10_qBracket_8 rfl rfl rfl rfl ?_
  refine k9_gi fX10_qBracket_9 (hr0).1 kg_10_102 ?_
  obtain ⟨g3, h⟩ := gd_some h
  obtain ⟨g4, h⟩ := gd_some h
  refine k9_ic_lt fX10_qBracket_12 rfl g3 g4 (fun c2 => ?_) (fun c2 => ?_)
  · replace h := ite_t (c2) h
    cases h
    exact h1 rfl
  · replace h := ite_f (c2) h
    refine t_l fX10_qBracket_15 rfl rfl rfl rfl ?_
    refine k9_gr fX10_qBracket_16 (hr0).1 kg_10_99 (s10_99r hr0) ?_
    refine t_l fX10_qBracket_19 rfl rfl rfl rfl ?_
    obtain ⟨g5, h⟩ := gd_some h
    refine k9_ia fX10_qBracket_20 (s10_99s hr0) g5.1 g5.2.1 g5.2.2 ?_
    obtain ⟨V6, v7, e8, h⟩ := bd_some h
    refine kcX10_qIsBracket fX10_qBracket_21 rfl (q_X10_qIsBracket  e8) (by decide) ?_
    obtain ⟨g10, h⟩ := gd_some h
    refine k9_if_ne fX10_qBracket_24 rfl g10 (fun c9 => ?_) (fun c9 => ?_)
    · replace h := ite_f (c9) h
      cases h
      exact h1 rfl
    · replace h := ite_t (Classical.not_not.mp c9) h
      replace h := lt_some h
      refine k9_iinc fX10_qBracket_27 rfl (Nat.le_of_ble_eq_true rfl) rfl ?_
      refine k9_goto fX10_qBracket_30 rfl ?_
      cases h
      exact h0 rfl

theorem tl_X10_qBracket_7 {X : mX} {n z : Nat} {G : mG} {r0 : Nat} (hr0 : is10 G r0) {x1 : Int} {V V' : mV} {fu : Nat} {q : Nat × Int} {Q : Nat → Nat → mG → mV → Option Value → Prop} (k1 : q.1 = 1 → T X (1) 257 33 [some (.ref r0), some (.int (iI q.2))] [] n z G V' Q) (h : lp (fun (s : Int) V => B_X10_qBracket_7 G r0 s V) fu x1 V = some (V', q)) : T X (1) 257 7 [some (.ref r0), some (.int (iI x1))] [] n z G V Q :=
  lp_go (P0 := fun s V => T X (1) 257 7 [some (.ref r0), some (.int (iI s))] [] n z G V Q) (PE := fun t s V => (t = 1 → T X (1) 257 33 [some (.ref r0), some (.int (iI s))] [] n z G V Q)) (fun s V V' q hb h0 h1 => tb_X10_qBracket_7 hr0  h0 (fun e => (h1 (by omega)) e) hb) fu x1 V V' q h k1

theorem tj_X10_qBracket_J33 {X : mX} {n z : Nat} {G : mG} {r0 : Nat} (hr0 : is10 G r0) {x1 : Int} {V V' : mV} {v : Int} (h : F_X10_qBracket_J33 G r0 x1 V = some (V', v)) : T X (1) 257 33 [some (.ref r0), some (.int (iI x1))] [] n z G V (qi n z G V' v) := by
  unfold F_X10_qBracket_J33 at h
  refine t_l fX10_qBracket_33 rfl rfl rfl rfl ?_
  refine t_l fX10_qBracket_34 rfl rfl rfl rfl ?_
  refine k9_gi fX10_qBracket_35 (hr0).1 kg_10_102 ?_
  obtain ⟨g17, h⟩ := gd_some h
  obtain ⟨g18, h⟩ := gd_some h
  refine k9_ic_lt fX10_qBracket_38 rfl g17 g18 (fun c16 => ?_) (fun c16 => ?_)
  · replace h := ite_t (c16) h
    refine t_s fX10_qBracket_50 rfl rfl rfl ?_
    refine t_ret fX10_qBracket_51 rX10_qBracket ?_
    exact qf_i h
  · replace h := ite_f (c16) h
    refine t_l fX10_qBracket_41 rfl rfl rfl rfl ?_
    refine k9_gr fX10_qBracket_42 (hr0).1 kg_10_99 (s10_99r hr0) ?_
    refine t_l fX10_qBracket_45 rfl rfl rfl rfl ?_
    obtain ⟨g19, h⟩ := gd_some h
    refine k9_ia fX10_qBracket_46 (s10_99s hr0) g19.1 g19.2.1 g19.2.2 ?_
    refine k9_goto fX10_qBracket_47 rfl ?_
    refine t_ret fX10_qBracket_51 rX10_qBracket ?_
    exact qf_i h

theorem q_X10_qBracket {X : mX} {n z : Nat} {G : mG} {r0 : Nat} (hr0 : is10 G r0) {V V' : mV} {v : Int} (h : F_X10_qBracket G r0 V = some (V', v)) : Rn X (1) 257 [.ref r0] n z G V n z G V' (some (.int (iI v))) := by
  refine qi_toR (v := v) (L := [some (.ref r0), none]) rfl ?_
  unfold F_X10_qBracket at h
  refine t_l fX10_qBracket_0 rfl rfl rfl rfl ?_
  refine k9_gi fX10_qBracket_1 (hr0).1 kg_10_100 ?_
  refine t_s fX10_qBracket_4 rfl rfl rfl ?_
  refine k9_isub fX10_qBracket_5 ?_
  replace h := lt_some h
  refine t_l fX10_qBracket_6 rfl rfl rfl rfl ?_
  obtain ⟨V12, u13, e14, h⟩ := bd_some h
  refine tl_X10_qBracket_7 hr0  (fun e15 => ?_) e14
  exact tj_X10_qBracket_J33 hr0   h

theorem tb_X10_qDropsToBracket_0 {X : mX} {n z : Nat} {G : mG} {r0 : Nat} (hr0 : is10 G r0) {V V' : mV} {q : Nat × Unit} {Q : Nat → Nat → mG → mV → Option Value → Prop} (h0 : q.1 = 0 → T X (2) 258 0 [some (.ref r0)] [] n z G V' Q) (h1 : q.1 = 1 → T X (2) 258 35 [some (.ref r0)] [] n z G V' Q) (h : B_X10_qDropsToBracket_0 G r0 V = some (V', q)) : T X (2) 258 0 [some (.ref r0)] [] n z G V Q := by
  unfold B_X10_qDropsToBracket_0 at h
  refine t_l fX10_qDropsToBracket_0 rfl rfl rfl rfl ?_
  refine k9_gi fX10_qDropsToBracket_1 (hr0).1 kg_10_100 ?_
  refine t_l fX10_qDropsToBracket_4 rfl rfl rfl rfl ?_
  refine k9_gi fX10_qDropsToBracket_5 (hr0).1 kg_10_102 ?_
  obtain ⟨g2, h⟩ := gd_some h
  obtain ⟨g3, h⟩ := gd_some h
  refine k9_ic_le fX10_qDropsToBracket_8 rfl g2 g3 (fun c1 => ?_) (fun c1 => ?_)
  · replace h := ite_t (c1) h
    cases h
    exact h1 rfl
  · replace h := ite_f (c1) h
    refine t_l fX10_qDropsToBracket_11 rfl rfl rfl rfl ?_
    refine k9_gr fX10_qDropsToBracket_12 (hr0).1 kg_10_99 (s10_99r hr0) ?_
    refine t_l fX10_qDropsToBracket_15 rfl rfl rfl rfl ?_
    refine k9_gi fX10_qDropsToBracket_16 (hr0).1 kg_10_100 ?_
    refine t_s fX10_qDropsToBracket_19 rfl rfl rfl ?_
    refine k9_isub fX10_qDropsToBracket_20 ?_
    obtain ⟨g4, h⟩ := gd_some h
    refine k9_ia fX10_qDropsToBracket_21 (s10_99s hr0) g4.1 g4.2.1 g4.2.2 ?_
    obtain ⟨V5, v6, e7, h⟩ := bd_some h
    refine kcX10_qIsBracket fX10_qDropsToBracket_22 rfl (q_X10_qIsBracket  e7) (by decide) ?_
    obtain ⟨g9, h⟩ := gd_some h
    refine k9_if_ne fX10_qDropsToBracket_25 rfl g9 (fun c8 => ?_) (fun c8 => ?_)
    · replace h := ite_f (c8) h
      cases h
      exact h1 rfl
    · replace h := ite_t (Classical.not_not.mp c8) h
      refine t_l fX10_qDropsToBracket_28 rfl rfl rfl rfl ?_
      obtain ⟨V10, v11, e12, h⟩ := bd_some h
      refine kcX10_qDrops fX10_qDropsToBracket_29 (hr0).1 rfl (q_X10_qDrops (hr0) e12) (by decide) ?_
      refine k9_goto fX10_qDropsToBracket_32 rfl ?_
      cases h
      exact h0 rfl

theorem tl_X10_qDropsToBracket_0 {X : mX} {n z : Nat} {G : mG} {r0 : Nat} (hr0 : is10 G r0) {V V' : mV} {fu : Nat} {q : Nat × Unit} {Q : Nat → Nat → mG → mV → Option Value → Prop} (k1 : q.1 = 1 → T X (2) 258 35 [some (.ref r0)] [] n z G V' Q) (h : lp (fun (s : Unit) V => B_X10_qDropsToBracket_0 G r0  V) fu () V = some (V', q)) : T X (2) 258 0 [some (.ref r0)] [] n z G V Q :=
  lp_go (P0 := fun s V => T X (2) 258 0 [some (.ref r0)] [] n z G V Q) (PE := fun t s V => (t = 1 → T X (2) 258 35 [some (.ref r0)] [] n z G V Q)) (fun s V V' q hb h0 h1 => tb_X10_qDropsToBracket_0 hr0  h0 (fun e => (h1 (by omega)) e) hb) fu () V V' q h k1

theorem q_X10_qDropsToBracket {X : mX} {n z : Nat} {G : mG} {r0 : Nat} (hr0 : is10 G r0) {V V' : mV} {v : Int} (h : F_X10_qDropsToBracket G r0 V = some (V', v)) : Rn X (2) 258 [.ref r0] n z G V n z G V' none := by
  refine qv_toR (v := v) (L := [some (.ref r0)]) rfl ?_
  unfold F_X10_qDropsToBracket at h
  obtain ⟨V13, u14, e15, h⟩ := bd_some h
  refine tl_X10_qDropsToBracket_0 hr0  (fun e16 => ?_) e15
  refine t_ret fX10_qDropsToBracket_35 rX10_qDropsToBracket ?_
  exact qf_v h

theorem tb_X10_qEndsPart_0 {X : mX} {n z : Nat} {G : mG} {r0 : Nat} (hr0 : is10 G r0) {V V' : mV} {q : Nat × Unit} {Q : Nat → Nat → mG → mV → Option Value → Prop} (h0 : q.1 = 0 → T X (2) 262 0 [some (.ref r0)] [] n z G V' Q) (h1 : q.1 = 1 → T X (2) 262 51 [some (.ref r0)] [] n z G V' Q) (h : B_X10_qEndsPart_0 G r0 V = some (V', q)) : T X (2) 262 0 [some (.ref r0)] [] n z G V Q := by
  unfold B_X10_qEndsPart_0 at h
  refine t_l fX10_qEndsPart_0 rfl rfl rfl rfl ?_
  refine k9_gi fX10_qEndsPart_1 (hr0).1 kg_10_5 ?_
  obtain ⟨g2, h⟩ := gd_some h
  refine k9_if_ne fX10_qEndsPart_4 rfl g2 (fun c1 => ?_) (fun c1 => ?_)
  · replace h := ite_f (c1) h
    cases h
    exact h1 rfl
  · replace h := ite_t (Classical.not_not.mp c1) h
    refine t_l fX10_qEndsPart_7 rfl rfl rfl rfl ?_
    refine k9_gi fX10_qEndsPart_8 (hr0).1 kg_10_100 ?_
    refine t_l fX10_qEndsPart_11 rfl rfl rfl rfl ?_
    refine k9_gi fX10_qEndsPart_12 (hr0).1 kg_10_102 ?_
    obtain ⟨g4, h⟩ := gd_some h
    obtain ⟨g5, h⟩ := gd_some h
    refine k9_ic_le fX10_qEndsPart_15 rfl g4 g5 (fun c3 => ?_) (fun c3 => ?_)
    · replace h := ite_t (c3) h
      cases h
      exact h1 rfl
    · replace h := ite_f (c3) h
      refine t_l fX10_qEndsPart_18 rfl rfl rfl rfl ?_
      refine k9_gr fX10_qEndsPart_19 (hr0).1 kg_10_99 (s10_99r hr0) ?_
      refine t_l fX10_qEndsPart_22 rfl rfl rfl rfl ?_
      refine k9_gi fX10_qEndsPart_23 (hr0).1 kg_10_100 ?_
      refine t_s fX10_qEndsPart_26 rfl rfl rfl ?_
      refine k9_isub fX10_qEndsPart_27 ?_
      obtain ⟨g6, h⟩ := gd_some h
      refine k9_ia fX10_qEndsPart_28 (s10_99s hr0) g6.1 g6.2.1 g6.2.2 ?_
      refine t_s fX10_qEndsPart_29 rfl rfl rfl ?_
      obtain ⟨g8, h⟩ := gd_some h
      refine k9_ic_lt fX10_qEndsPart_31 rfl g8 ⟨by decide, by decide⟩ (fun c7 => ?_) (fun c7 => ?_)
      · replace h := ite_t (c7) h
        cases h
        exact h1 rfl
      · replace h := ite_f (c7) h
        refine t_l fX10_qEndsPart_34 rfl rfl rfl rfl ?_
        refine t_s fX10_qEndsPart_35 rfl rfl rfl ?_
        refine k9_gi fX10_qEndsPart_36 (hr0).1 kg_10_101 ?_
        refine t_s fX10_qEndsPart_39 rfl rfl rfl ?_
        refine k9_isub fX10_qEndsPart_40 ?_
        refine k9_pi fX10_qEndsPart_41 (hr0).1 kp_10_101 ?_
        replace h := lt_some h
        refine t_l fX10_qEndsPart_44 rfl rfl rfl rfl ?_
        obtain ⟨V10, v11, e12, h⟩ := bd_some h
        refine kcX10_qDrops fX10_qEndsPart_45 (hr0).1 rfl (q_X10_qDrops (hr0) e12) (by decide) ?_
        refine k9_goto fX10_qEndsPart_48 rfl ?_
        cases h
        exact h0 rfl

theorem tl_X10_qEndsPart_0 {X : mX} {n z : Nat} {G : mG} {r0 : Nat} (hr0 : is10 G r0) {V V' : mV} {fu : Nat} {q : Nat × Unit} {Q : Nat → Nat → mG → mV → Option Value → Prop} (k1 : q.1 = 1 → T X (2) 262 51 [some (.ref r0)] [] n z G V' Q) (h : lp (fun (s : Unit) V => B_X10_qEndsPart_0 G r0  V) fu () V = some (V', q)) : T X (2) 262 0 [some (.ref r0)] [] n z G V Q :=
  lp_go (P0 := fun s V => T X (2) 262 0 [some (.ref r0)] [] n z G V Q) (PE := fun t s V => (t = 1 → T X (2) 262 51 [some (.ref r0)] [] n z G V Q)) (fun s V V' q hb h0 h1 => tb_X10_qEndsPart_0 hr0  h0 (fun e => (h1 (by omega)) e) hb) fu () V V' q h k1

theorem q_X10_qEndsPart {X : mX} {n z : Nat} {G : mG} {r0 : Nat} (hr0 : is10 G r0) {V V' : mV} {v : Int} (h : F_X10_qEndsPart G r0 V = some (V', v)) : Rn X (2) 262 [.ref r0] n z G V n z G V' none := by
  refine qv_toR (v := v) (L := [some (.ref r0)]) rfl ?_
  unfold F_X10_qEndsPart at h
  obtain ⟨V13, u14, e15, h⟩ := bd_some h
  refine tl_X10_qEndsPart_0 hr0  (fun e16 => ?_) e15
  refine t_ret fX10_qEndsPart_51 rX10_qEndsPart ?_
  exact qf_v h

theorem q_X10_qIsOn {X : mX} {n z : Nat} {G : mG} {r0 : Nat} (hr0 : is10 G r0) {x1 : Int} {V V' : mV} {v : Int} (h : F_X10_qIsOn G r0 x1 V = some (V', v)) : Rn X (0) 254 [.ref r0, .int (iI x1)] n z G V n z G V' (some (.int (iI v))) := by
  refine qi_toR (v := v) (L := [some (.ref r0), some (.int (iI x1))]) rfl ?_
  unfold F_X10_qIsOn at h
  refine t_l fX10_qIsOn_0 rfl rfl rfl rfl ?_
  refine k9_gi fX10_qIsOn_1 (hr0).1 kg_10_100 ?_
  obtain ⟨g2, h⟩ := gd_some h
  refine k9_if_le fX10_qIsOn_4 rfl g2 (fun c1 => ?_) (fun c1 => ?_)
  · replace h := ite_t (c1) h
    refine t_s fX10_qIsOn_26 rfl rfl rfl ?_
    refine t_ret fX10_qIsOn_27 (rX10_qIsOn _ (by decide)) ?_
    exact qf_i h
  · replace h := ite_f (c1) h
    refine t_l fX10_qIsOn_7 rfl rfl rfl rfl ?_
    refine k9_gr fX10_qIsOn_8 (hr0).1 kg_10_99 (s10_99r hr0) ?_
    refine t_l fX10_qIsOn_11 rfl rfl rfl rfl ?_
    refine k9_gi fX10_qIsOn_12 (hr0).1 kg_10_100 ?_
    refine t_s fX10_qIsOn_15 rfl rfl rfl ?_
    refine k9_isub fX10_qIsOn_16 ?_
    obtain ⟨g3, h⟩ := gd_some h
    refine k9_ia fX10_qIsOn_17 (s10_99s hr0) g3.1 g3.2.1 g3.2.2 ?_
    refine t_l fX10_qIsOn_18 rfl rfl rfl rfl ?_
    obtain ⟨g5, h⟩ := gd_some h
    obtain ⟨g6, h⟩ := gd_some h
    refine k9_ic_ne fX10_qIsOn_19 rfl g5 g6 (fun c4 => ?_) (fun c4 => ?_)
    · replace h := ite_f (c4) h
      refine t_s fX10_qIsOn_26 rfl rfl rfl ?_
      refine t_ret fX10_qIsOn_27 (rX10_qIsOn _ (by decide)) ?_
      exact qf_i h
    · replace h := ite_t (Classical.not_not.mp c4) h
      refine t_s fX10_qIsOn_22 rfl rfl rfl ?_
      refine k9_goto fX10_qIsOn_23 rfl ?_
      refine t_ret fX10_qIsOn_27 (rX10_qIsOn _ (by decide)) ?_
      exact qf_i h


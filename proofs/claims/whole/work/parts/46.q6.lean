theorem tb_X10_city_45 {X : mX} {n z : Nat} {G : mG} {r0 : Nat} (hr0 : is10 G r0) {x1 : Int} {V V' : mV} {q : Nat × Int} {Q : Nat → Nat → mG → mV → Option Value → Prop} (h0 : q.1 = 0 → T X (11) 186 45 [some (.ref r0), some (.int (iI q.2))] [] n z G V' Q) (h1 : q.1 = 1 → T X (11) 186 63 [some (.ref r0), some (.int (iI q.2))] [] n z G V' Q) (h : B_X10_city_45 G r0 x1 V = some (V', q)) : T X (11) 186 45 [some (.ref r0), some (.int (iI x1))] [] n z G V Q := by
  unfold B_X10_city_45 at h
  refine t_l fX10_city_45 rfl rfl rfl rfl ?_
  refine t_s fX10_city_46 rfl rfl rfl ?_
  obtain ⟨g10, h⟩ := gd_some h
  refine k9_ic_ge fX10_city_47 rfl g10 ⟨by decide, by decide⟩ (fun c9 => ?_) (fun c9 => ?_)
  · replace h := ite_t (c9) h
    cases h
    exact h1 rfl
  · replace h := ite_f (c9) h
    refine t_l fX10_city_50 rfl rfl rfl rfl ?_
    refine k9_gr fX10_city_51 (hr0).1 kg_10_36 (s10_36r hr0) ?_
    refine t_l fX10_city_54 rfl rfl rfl rfl ?_
    refine t_s fX10_city_55 rfl rfl rfl ?_
    obtain ⟨g11, h⟩ := gd_some h
    refine k9_is fX10_city_56 (s10_36s hr0) g11.1 g11.2.1 g11.2.2 ?_
    replace h := lt_some h
    replace h := lt_some h
    refine k9_iinc fX10_city_57 rfl (Nat.le_of_ble_eq_true rfl) rfl ?_
    refine k9_goto fX10_city_60 rfl ?_
    cases h
    exact h0 rfl

theorem tl_X10_city_45 {X : mX} {n z : Nat} {G : mG} {r0 : Nat} (hr0 : is10 G r0) {x1 : Int} {V V' : mV} {fu : Nat} {q : Nat × Int} {Q : Nat → Nat → mG → mV → Option Value → Prop} (k1 : q.1 = 1 → T X (11) 186 63 [some (.ref r0), some (.int (iI q.2))] [] n z G V' Q) (h : lp (fun (s : Int) V => B_X10_city_45 G r0 s V) fu x1 V = some (V', q)) : T X (11) 186 45 [some (.ref r0), some (.int (iI x1))] [] n z G V Q :=
  lp_go (P0 := fun s V => T X (11) 186 45 [some (.ref r0), some (.int (iI s))] [] n z G V Q) (PE := fun t s V => (t = 1 → T X (11) 186 63 [some (.ref r0), some (.int (iI s))] [] n z G V Q)) (fun s V V' q hb h0 h1 => tb_X10_city_45 hr0  h0 (fun e => (h1 (by omega)) e) hb) fu x1 V V' q h k1

theorem tb_X10_city_65 {X : mX} {n z : Nat} {G : mG} {r0 : Nat} (hr0 : is10 G r0) {x1 : Int} {V V' : mV} {q : Nat × Int} {Q : Nat → Nat → mG → mV → Option Value → Prop} (h0 : q.1 = 0 → T X (11) 186 65 [some (.ref r0), some (.int (iI q.2))] [] n z G V' Q) (h1 : q.1 = 1 → T X (11) 186 83 [some (.ref r0), some (.int (iI q.2))] [] n z G V' Q) (h : B_X10_city_65 G r0 x1 V = some (V', q)) : T X (11) 186 65 [some (.ref r0), some (.int (iI x1))] [] n z G V Q := by
  unfold B_X10_city_65 at h
  refine t_l fX10_city_65 rfl rfl rfl rfl ?_
  refine t_s fX10_city_66 rfl rfl rfl ?_
  obtain ⟨g19, h⟩ := gd_some h
  refine k9_ic_ge fX10_city_67 rfl g19 ⟨by decide, by decide⟩ (fun c18 => ?_) (fun c18 => ?_)
  · replace h := ite_t (c18) h
    cases h
    exact h1 rfl
  · replace h := ite_f (c18) h
    refine t_l fX10_city_70 rfl rfl rfl rfl ?_
    refine k9_gr fX10_city_71 (hr0).1 kg_10_43 (s10_43r hr0) ?_
    refine t_l fX10_city_74 rfl rfl rfl rfl ?_
    refine t_s fX10_city_75 rfl rfl rfl ?_
    obtain ⟨g20, h⟩ := gd_some h
    refine k9_is fX10_city_76 (s10_43s hr0) g20.1 g20.2.1 g20.2.2 ?_
    replace h := lt_some h
    replace h := lt_some h
    refine k9_iinc fX10_city_77 rfl (Nat.le_of_ble_eq_true rfl) rfl ?_
    refine k9_goto fX10_city_80 rfl ?_
    cases h
    exact h0 rfl

theorem tl_X10_city_65 {X : mX} {n z : Nat} {G : mG} {r0 : Nat} (hr0 : is10 G r0) {x1 : Int} {V V' : mV} {fu : Nat} {q : Nat × Int} {Q : Nat → Nat → mG → mV → Option Value → Prop} (k1 : q.1 = 1 → T X (11) 186 83 [some (.ref r0), some (.int (iI q.2))] [] n z G V' Q) (h : lp (fun (s : Int) V => B_X10_city_65 G r0 s V) fu x1 V = some (V', q)) : T X (11) 186 65 [some (.ref r0), some (.int (iI x1))] [] n z G V Q :=
  lp_go (P0 := fun s V => T X (11) 186 65 [some (.ref r0), some (.int (iI s))] [] n z G V Q) (PE := fun t s V => (t = 1 → T X (11) 186 83 [some (.ref r0), some (.int (iI s))] [] n z G V Q)) (fun s V V' q hb h0 h1 => tb_X10_city_65 hr0  h0 (fun e => (h1 (by omega)) e) hb) fu x1 V V' q h k1

theorem tb_X10_city_83 {X : mX} {n z : Nat} {G : mG} {r0 : Nat} (hr0 : is10 G r0) {j1 : Option Value} {V V' : mV} {q : Nat × Unit} {Q : Nat → Nat → mG → mV → Option Value → Prop} (h0 : q.1 = 0 → ∀ j1 : Option Value, T X (11) 186 83 [some (.ref r0), j1] [] n z G V' Q) (h1 : q.1 = 1 → ∀ j1 : Option Value, T X (11) 186 105 [some (.ref r0), j1] [] n z G V' Q) (h : B_X10_city_83 G r0 V = some (V', q)) : T X (11) 186 83 [some (.ref r0), j1] [] n z G V Q := by
  unfold B_X10_city_83 at h
  refine t_l fX10_city_83 rfl rfl rfl rfl ?_
  refine k9_gi fX10_city_84 (hr0).1 kg_10_5 ?_
  obtain ⟨g28, h⟩ := gd_some h
  refine k9_if_ne fX10_city_87 rfl g28 (fun c27 => ?_) (fun c27 => ?_)
  · replace h := ite_f (c27) h
    cases h
    exact h1 rfl _
  · replace h := ite_t (Classical.not_not.mp c27) h
    refine t_l fX10_city_90 rfl rfl rfl rfl ?_
    obtain ⟨V29, v30, e31, h⟩ := bd_some h
    refine kcX10_look fX10_city_91 (hr0).1 rfl (q_X10_look (hr0) e31) (by decide) ?_
    refine t_s fX10_city_94 rfl rfl rfl ?_
    obtain ⟨g33, h⟩ := gd_some h
    refine k9_ic_eq fX10_city_95 rfl g33 ⟨by decide, by decide⟩ (fun c32 => ?_) (fun c32 => ?_)
    · replace h := ite_t (c32) h
      cases h
      exact h1 rfl _
    · replace h := ite_f (c32) h
      refine t_l fX10_city_98 rfl rfl rfl rfl ?_
      obtain ⟨V34, v35, e36, h⟩ := bd_some h
      refine kcX10_statementTold fX10_city_99 (hr0).1 rfl (q_X10_statementTold (hr0) e36) (by decide) ?_
      refine k9_goto fX10_city_102 rfl ?_
      cases h
      exact h0 rfl _

theorem tl_X10_city_83 {X : mX} {n z : Nat} {G : mG} {r0 : Nat} (hr0 : is10 G r0) {j1 : Option Value} {V V' : mV} {fu : Nat} {q : Nat × Unit} {Q : Nat → Nat → mG → mV → Option Value → Prop} (k1 : q.1 = 1 → ∀ j1 : Option Value, T X (11) 186 105 [some (.ref r0), j1] [] n z G V' Q) (h : lp (fun (s : Unit) V => B_X10_city_83 G r0  V) fu () V = some (V', q)) : T X (11) 186 83 [some (.ref r0), j1] [] n z G V Q :=
  lp_go (P0 := fun s V => ∀ j1 : Option Value, T X (11) 186 83 [some (.ref r0), j1] [] n z G V Q) (PE := fun t s V => (t = 1 → ∀ j1 : Option Value, T X (11) 186 105 [some (.ref r0), j1] [] n z G V Q)) (fun s V V' q hb h0 h1 => fun _ => tb_X10_city_83 hr0  h0 (fun e => (h1 (by omega)) e) hb) fu () V V' q h k1 _

theorem tj_X10_city_J105 {X : mX} {n z : Nat} {G : mG} {r0 : Nat} (hr0 : is10 G r0) {j1 : Option Value} {V V' : mV} {v : Int} (h : F_X10_city_J105 G r0 V = some (V', v)) : T X (11) 186 105 [some (.ref r0), j1] [] n z G V (qi n z G V' v) := by
  unfold F_X10_city_J105 at h
  refine t_l fX10_city_105 rfl rfl rfl rfl ?_
  refine t_l fX10_city_106 rfl rfl rfl rfl ?_
  refine k9_gi fX10_city_107 (hr0).1 kg_10_5 ?_
  refine k9_pi fX10_city_110 (hr0).1 kp_10_7 ?_
  replace h := lt_some h
  refine t_l fX10_city_113 rfl rfl rfl rfl ?_
  refine t_l fX10_city_114 rfl rfl rfl rfl ?_
  refine k9_gi fX10_city_115 (hr0).1 kg_10_6 ?_
  refine k9_pi fX10_city_118 (hr0).1 kp_10_8 ?_
  replace h := lt_some h
  refine t_l fX10_city_121 rfl rfl rfl rfl ?_
  refine k9_gi fX10_city_122 (hr0).1 kg_10_5 ?_
  obtain ⟨g44, h⟩ := gd_some h
  refine k9_if_eq fX10_city_125 rfl g44 (fun c43 => ?_) (fun c43 => ?_)
  · replace h := ite_t (c43) h
    refine t_l fX10_city_140 rfl rfl rfl rfl ?_
    obtain ⟨V45, v46, e47, h⟩ := bd_some h
    refine kcX10_stands fX10_city_141 (hr0).1 rfl (q_X10_stands (hr0) e47) (by decide) ?_
    refine t_l fX10_city_144 rfl rfl rfl rfl ?_
    refine k9_gi fX10_city_145 (hr0).1 kg_10_47 ?_
    refine t_ret fX10_city_148 rX10_city ?_
    exact qf_i h
  · replace h := ite_f (c43) h
    refine t_l fX10_city_128 rfl rfl rfl rfl ?_
    refine k9_gr fX10_city_129 (hr0).1 kg_10_9 (s10_9r hr0) ?_
    refine t_s fX10_city_132 rfl rfl rfl ?_
    refine t_s fX10_city_133 rfl rfl rfl ?_
    refine k9_ia fX10_city_134 (s10_9s hr0) (by decide) (by decide) (by decide) ?_
    refine t_s fX10_city_135 rfl rfl rfl ?_
    refine k9_iadd fX10_city_136 ?_
    refine k9_is fX10_city_137 (s10_9s hr0) (by decide) (by decide) (by decide) ?_
    replace h := lt_some h
    refine t_s fX10_city_138 rfl rfl rfl ?_
    refine t_ret fX10_city_139 rX10_city ?_
    exact qf_i h

theorem q_X10_city {X : mX} {n z : Nat} {G : mG} {r0 : Nat} (hr0 : is10 G r0) {V V' : mV} {v : Int} (h : F_X10_city G r0 V = some (V', v)) : Rn X (11) 186 [.ref r0] n z G V n z G V' (some (.int (iI v))) := by
  refine qi_toR (v := v) (L := [some (.ref r0), none]) rfl ?_
  unfold F_X10_city at h
  refine t_l fX10_city_0 rfl rfl rfl rfl ?_
  refine t_l fX10_city_1 rfl rfl rfl rfl ?_
  refine k9_gi fX10_city_2 (hr0).1 kg_10_1 ?_
  refine k9_pi fX10_city_5 (hr0).1 kp_10_3 ?_
  replace h := lt_some h
  refine t_l fX10_city_8 rfl rfl rfl rfl ?_
  refine t_s fX10_city_9 rfl rfl rfl ?_
  refine k9_pi fX10_city_10 (hr0).1 kp_10_1 ?_
  replace h := lt_some h
  refine t_l fX10_city_13 rfl rfl rfl rfl ?_
  refine t_s fX10_city_14 rfl rfl rfl ?_
  refine k9_pi fX10_city_15 (hr0).1 kp_10_2 ?_
  replace h := lt_some h
  refine t_l fX10_city_18 rfl rfl rfl rfl ?_
  refine t_s fX10_city_19 rfl rfl rfl ?_
  refine k9_pi fX10_city_20 (hr0).1 kp_10_4 ?_
  replace h := lt_some h
  refine t_l fX10_city_23 rfl rfl rfl rfl ?_
  refine t_s fX10_city_24 rfl rfl rfl ?_
  refine k9_pi fX10_city_25 (hr0).1 kp_10_5 ?_
  replace h := lt_some h
  refine t_l fX10_city_28 rfl rfl rfl rfl ?_
  refine t_s fX10_city_29 rfl rfl rfl ?_
  refine k9_pi fX10_city_30 (hr0).1 kp_10_6 ?_
  replace h := lt_some h
  refine t_l fX10_city_33 rfl rfl rfl rfl ?_
  refine t_s fX10_city_34 rfl rfl rfl ?_
  refine k9_pi fX10_city_35 (hr0).1 kp_10_47 ?_
  replace h := lt_some h
  refine t_l fX10_city_38 rfl rfl rfl rfl ?_
  refine t_s fX10_city_39 rfl rfl rfl ?_
  refine k9_pi fX10_city_40 (hr0).1 kp_10_46 ?_
  replace h := lt_some h
  refine t_s fX10_city_43 rfl rfl rfl ?_
  refine t_l fX10_city_44 rfl rfl rfl rfl ?_
  obtain ⟨V14, u15, e16, h⟩ := bd_some h
  refine tl_X10_city_45 hr0  (fun e17 => ?_) e16
  refine t_s fX10_city_63 rfl rfl rfl ?_
  refine t_l fX10_city_64 rfl rfl rfl rfl ?_
  obtain ⟨V23, u24, e25, h⟩ := bd_some h
  refine tl_X10_city_65 hr0  (fun e26 => ?_) e25
  obtain ⟨V37, u38, e39, h⟩ := bd_some h
  refine tl_X10_city_83 hr0  (fun e40 j1 => ?_) e39
  exact tj_X10_city_J105 hr0   h

theorem q_X10_fault {X : mX} {n z : Nat} {G : mG} {r0 : Nat} (hr0 : is10 G r0) {x1 : Int} {V V' : mV} {v : Int} (h : F_X10_fault G r0 x1 V = some (V', v)) : Rn X (0) 188 [.ref r0, .int (iI x1)] n z G V n z G V' (some (.int (iI v))) := by
  refine qi_toR (v := v) (L := [some (.ref r0), some (.int (iI x1))]) rfl ?_
  unfold F_X10_fault at h
  refine t_l fX10_fault_0 rfl rfl rfl rfl ?_
  obtain ⟨g2, h⟩ := gd_some h
  refine k9_if_ne fX10_fault_1 rfl g2 (fun c1 => ?_) (fun c1 => ?_)
  · replace h := ite_f (c1) h
    refine t_l fX10_fault_11 rfl rfl rfl rfl ?_
    refine t_s fX10_fault_12 rfl rfl rfl ?_
    refine k9_ic_ne fX10_fault_13 rfl g2 ⟨by decide, by decide⟩ (fun c3 => ?_) (fun c3 => ?_)
    · replace h := ite_f (c3) h
      refine t_s fX10_fault_23 rfl rfl rfl ?_
      refine t_ret fX10_fault_24 rX10_fault ?_
      exact qf_i h
    · replace h := ite_t (Classical.not_not.mp c3) h
      refine t_l fX10_fault_16 rfl rfl rfl rfl ?_
      refine k9_gi fX10_fault_17 (hr0).1 kg_10_8 ?_
      refine k9_goto fX10_fault_20 rfl ?_
      refine t_ret fX10_fault_24 rX10_fault ?_
      exact qf_i h
  · replace h := ite_t (Classical.not_not.mp c1) h
    refine t_l fX10_fault_4 rfl rfl rfl rfl ?_
    refine k9_gi fX10_fault_5 (hr0).1 kg_10_7 ?_
    refine k9_goto fX10_fault_8 rfl ?_
    refine t_ret fX10_fault_24 rX10_fault ?_
    exact qf_i h

theorem q_X10_peopleMany {X : mX} {n z : Nat} {G : mG} {r0 : Nat} (hr0 : is10 G r0) {V V' : mV} {v : Int} (h : F_X10_peopleMany G r0 V = some (V', v)) : Rn X (0) 189 [.ref r0] n z G V n z G V' (some (.int (iI v))) := by
  refine qi_toR (v := v) (L := [some (.ref r0)]) rfl ?_
  unfold F_X10_peopleMany at h
  refine t_l fX10_peopleMany_0 rfl rfl rfl rfl ?_
  refine k9_gr fX10_peopleMany_1 (hr0).1 kg_10_36 (s10_36r hr0) ?_
  refine t_s fX10_peopleMany_4 rfl rfl rfl ?_
  refine k9_ia fX10_peopleMany_5 (s10_36s hr0) (by decide) (by decide) (by decide) ?_
  refine t_ret fX10_peopleMany_6 rX10_peopleMany ?_
  exact qf_i h

theorem q_X10_dutyMany {X : mX} {n z : Nat} {G : mG} {r0 : Nat} (hr0 : is10 G r0) {V V' : mV} {v : Int} (h : F_X10_dutyMany G r0 V = some (V', v)) : Rn X (0) 190 [.ref r0] n z G V n z G V' (some (.int (iI v))) := by
  refine qi_toR (v := v) (L := [some (.ref r0)]) rfl ?_
  unfold F_X10_dutyMany at h
  refine t_l fX10_dutyMany_0 rfl rfl rfl rfl ?_
  refine k9_gr fX10_dutyMany_1 (hr0).1 kg_10_36 (s10_36r hr0) ?_
  refine t_s fX10_dutyMany_4 rfl rfl rfl ?_
  refine k9_ia fX10_dutyMany_5 (s10_36s hr0) (by decide) (by decide) (by decide) ?_
  refine t_ret fX10_dutyMany_6 rX10_dutyMany ?_
  exact qf_i h

theorem q_X10_isPerson {X : mX} {n z : Nat} {G : mG} {r0 : Nat} (hr0 : is10 G r0) {x1 : Int} {V V' : mV} {v : Int} (h : F_X10_isPerson G r0 x1 V = some (V', v)) : Rn X (1) 191 [.ref r0, .int (iI x1)] n z G V n z G V' (some (.int (iI v))) := by
  refine qi_toR (v := v) (L := [some (.ref r0), some (.int (iI x1))]) rfl ?_
  unfold F_X10_isPerson at h
  refine t_l fX10_isPerson_0 rfl rfl rfl rfl ?_
  obtain ⟨g1, h⟩ := gd_some h
  refine k9_i2l fX10_isPerson_1 g1 ?_
  refine t_s fX10_isPerson_2 rfl rfl rfl ?_
  refine t_l fX10_isPerson_3 rfl rfl rfl rfl ?_
  obtain ⟨V2, v3, e4, h⟩ := bd_some h
  refine kcX10_peopleMany fX10_isPerson_4 (hr0).1 rfl (q_X10_peopleMany (hr0) e4) (by decide) ?_
  refine t_s fX10_isPerson_7 rfl rfl rfl ?_
  refine k9_isub fX10_isPerson_8 ?_
  obtain ⟨g5, h⟩ := gd_some h
  refine k9_i2l fX10_isPerson_9 g5 ?_
  obtain ⟨V6, v7, e8, h⟩ := bd_some h
  refine kcX10_isIn fX10_isPerson_10 rfl (q_X10_isIn  e8) (by decide) ?_
  obtain ⟨g9, h⟩ := gd_some h
  refine t_ret fX10_isPerson_13 (rX10_isPerson _ g9) ?_
  exact qf_i h

theorem q_X10_wardOf {X : mX} {n z : Nat} {G : mG} {r0 : Nat} (hr0 : is10 G r0) {x1 : Int} {V V' : mV} {v : Int} (h : F_X10_wardOf G r0 x1 V = some (V', v)) : Rn X (0) 192 [.ref r0, .int (iI x1)] n z G V n z G V' (some (.int (iI v))) := by
  refine qi_toR (v := v) (L := [some (.ref r0), some (.int (iI x1))]) rfl ?_
  unfold F_X10_wardOf at h
  refine t_l fX10_wardOf_0 rfl rfl rfl rfl ?_
  refine k9_gr fX10_wardOf_1 (hr0).1 kg_10_38 (s10_38r hr0) ?_
  refine t_s fX10_wardOf_4 rfl rfl rfl ?_
  refine t_l fX10_wardOf_6 rfl rfl rfl rfl ?_
  refine k9_iadd fX10_wardOf_7 ?_
  obtain ⟨g1, h⟩ := gd_some h
  refine k9_ia fX10_wardOf_8 (s10_38s hr0) g1.1 g1.2.1 g1.2.2 ?_
  refine t_ret fX10_wardOf_9 rX10_wardOf ?_
  exact qf_i h

theorem q_X10_hardOf {X : mX} {n z : Nat} {G : mG} {r0 : Nat} (hr0 : is10 G r0) {x1 : Int} {V V' : mV} {v : Int} (h : F_X10_hardOf G r0 x1 V = some (V', v)) : Rn X (0) 193 [.ref r0, .int (iI x1)] n z G V n z G V' (some (.int (iI v))) := by
  refine qi_toR (v := v) (L := [some (.ref r0), some (.int (iI x1))]) rfl ?_
  unfold F_X10_hardOf at h
  refine t_l fX10_hardOf_0 rfl rfl rfl rfl ?_
  refine k9_gr fX10_hardOf_1 (hr0).1 kg_10_38 (s10_38r hr0) ?_
  refine t_s fX10_hardOf_4 rfl rfl rfl ?_
  refine t_l fX10_hardOf_6 rfl rfl rfl rfl ?_
  refine k9_iadd fX10_hardOf_7 ?_
  obtain ⟨g1, h⟩ := gd_some h
  refine k9_ia fX10_hardOf_8 (s10_38s hr0) g1.1 g1.2.1 g1.2.2 ?_
  refine t_ret fX10_hardOf_9 rX10_hardOf ?_
  exact qf_i h

theorem q_X10_dutyOf {X : mX} {n z : Nat} {G : mG} {r0 : Nat} (hr0 : is10 G r0) {x1 x2 : Int} {V V' : mV} {v : Int} (h : F_X10_dutyOf G r0 x1 x2 V = some (V', v)) : Rn X (0) 194 [.ref r0, .int (iI x1), .int (iI x2)] n z G V n z G V' (some (.int (iI v))) := by
  refine qi_toR (v := v) (L := [some (.ref r0), some (.int (iI x1)), some (.int (iI x2))]) rfl ?_
  unfold F_X10_dutyOf at h
  refine t_l fX10_dutyOf_0 rfl rfl rfl rfl ?_
  refine k9_gr fX10_dutyOf_1 (hr0).1 kg_10_39 (s10_39r hr0) ?_
  refine t_s fX10_dutyOf_4 rfl rfl rfl ?_
  refine t_s fX10_dutyOf_6 rfl rfl rfl ?_
  refine t_l fX10_dutyOf_7 rfl rfl rfl rfl ?_
  refine k9_imul fX10_dutyOf_8 ?_
  refine k9_iadd fX10_dutyOf_9 ?_
  refine t_l fX10_dutyOf_10 rfl rfl rfl rfl ?_
  refine k9_iadd fX10_dutyOf_11 ?_
  obtain ⟨g1, h⟩ := gd_some h
  refine k9_ia fX10_dutyOf_12 (s10_39s hr0) g1.1 g1.2.1 g1.2.2 ?_
  refine t_ret fX10_dutyOf_13 rX10_dutyOf ?_
  exact qf_i h

theorem q_X10_livesNow {X : mX} {n z : Nat} {G : mG} {r0 : Nat} (hr0 : is10 G r0) {x1 : Int} {V V' : mV} {v : Int} (h : F_X10_livesNow G r0 x1 V = some (V', v)) : Rn X (0) 195 [.ref r0, .int (iI x1)] n z G V n z G V' (some (.int (iI v))) := by
  refine qi_toR (v := v) (L := [some (.ref r0), some (.int (iI x1))]) rfl ?_
  unfold F_X10_livesNow at h
  refine t_l fX10_livesNow_0 rfl rfl rfl rfl ?_
  refine k9_gr fX10_livesNow_1 (hr0).1 kg_10_49 (s10_49r hr0) ?_
  refine t_s fX10_livesNow_4 rfl rfl rfl ?_
  refine t_s fX10_livesNow_5 rfl rfl rfl ?_
  refine t_l fX10_livesNow_7 rfl rfl rfl rfl ?_
  refine k9_imul fX10_livesNow_8 ?_
  refine k9_iadd fX10_livesNow_9 ?_
  obtain ⟨g1, h⟩ := gd_some h
  refine k9_ia fX10_livesNow_10 (s10_49s hr0) g1.1 g1.2.1 g1.2.2 ?_
  refine t_ret fX10_livesNow_11 rX10_livesNow ?_
  exact qf_i h

theorem q_X10_liveNow {X : mX} {n z : Nat} {G : mG} {r0 : Nat} (hr0 : is10 G r0) {x1 x2 : Int} {V V' : mV} {v : Int} (h : F_X10_liveNow G r0 x1 x2 V = some (V', v)) : Rn X (0) 196 [.ref r0, .int (iI x1), .int (iI x2)] n z G V n z G V' none := by
  refine qv_toR (v := v) (L := [some (.ref r0), some (.int (iI x1)), some (.int (iI x2))]) rfl ?_
  unfold F_X10_liveNow at h
  refine t_l fX10_liveNow_0 rfl rfl rfl rfl ?_
  refine k9_gr fX10_liveNow_1 (hr0).1 kg_10_49 (s10_49r hr0) ?_
  refine t_s fX10_liveNow_4 rfl rfl rfl ?_
  refine t_s fX10_liveNow_5 rfl rfl rfl ?_
  refine t_l fX10_liveNow_7 rfl rfl rfl rfl ?_
  refine k9_imul fX10_liveNow_8 ?_
  refine k9_iadd fX10_liveNow_9 ?_
  refine t_l fX10_liveNow_10 rfl rfl rfl rfl ?_
  obtain ⟨g1, h⟩ := gd_some h
  refine k9_is fX10_liveNow_11 (s10_49s hr0) g1.1 g1.2.1 g1.2.2 ?_
  replace h := lt_some h
  refine t_ret fX10_liveNow_12 rX10_liveNow ?_
  exact qf_v h

theorem q_X10_watches {X : mX} {n z : Nat} {G : mG} {r0 : Nat} (hr0 : is10 G r0) {x1 : Int} {V V' : mV} {v : Int} (h : F_X10_watches G r0 x1 V = some (V', v)) : Rn X (0) 197 [.ref r0, .int (iI x1)] n z G V n z G V' (some (.int (iI v))) := by
  refine qi_toR (v := v) (L := [some (.ref r0), some (.int (iI x1))]) rfl ?_
  unfold F_X10_watches at h
  refine t_l fX10_watches_0 rfl rfl rfl rfl ?_
  refine k9_gr fX10_watches_1 (hr0).1 kg_10_49 (s10_49r hr0) ?_
  refine t_s fX10_watches_4 rfl rfl rfl ?_
  refine t_s fX10_watches_5 rfl rfl rfl ?_
  refine t_l fX10_watches_7 rfl rfl rfl rfl ?_
  refine k9_imul fX10_watches_8 ?_
  refine k9_iadd fX10_watches_9 ?_
  obtain ⟨g1, h⟩ := gd_some h
  refine k9_ia fX10_watches_10 (s10_49s hr0) g1.1 g1.2.1 g1.2.2 ?_
  refine t_ret fX10_watches_11 rX10_watches ?_
  exact qf_i h

theorem q_X10_pointsOf {X : mX} {n z : Nat} {G : mG} {r0 : Nat} (hr0 : is10 G r0) {x1 x2 : Int} {V V' : mV} {v : Int} (h : F_X10_pointsOf G r0 x1 x2 V = some (V', v)) : Rn X (0) 198 [.ref r0, .int (iI x1), .int (iI x2)] n z G V n z G V' (some (.int (iI v))) := by
  refine qi_toR (v := v) (L := [some (.ref r0), some (.int (iI x1)), some (.int (iI x2))]) rfl ?_
  unfold F_X10_pointsOf at h
  refine t_l fX10_pointsOf_0 rfl rfl rfl rfl ?_
  refine k9_gr fX10_pointsOf_1 (hr0).1 kg_10_49 (s10_49r hr0) ?_
  refine t_s fX10_pointsOf_4 rfl rfl rfl ?_
  refine t_s fX10_pointsOf_5 rfl rfl rfl ?_
  refine t_l fX10_pointsOf_7 rfl rfl rfl rfl ?_
  refine k9_imul fX10_pointsOf_8 ?_
  refine k9_iadd fX10_pointsOf_9 ?_
  refine t_l fX10_pointsOf_10 rfl rfl rfl rfl ?_
  refine k9_iadd fX10_pointsOf_11 ?_
  obtain ⟨g1, h⟩ := gd_some h
  refine k9_ia fX10_pointsOf_12 (s10_49s hr0) g1.1 g1.2.1 g1.2.2 ?_
  refine t_ret fX10_pointsOf_13 rX10_pointsOf ?_
  exact qf_i h

theorem q_X10_knowsNow {X : mX} {n z : Nat} {G : mG} {r0 : Nat} (hr0 : is10 G r0) {x1 x2 x3 : Int} {V V' : mV} {v : Int} (h : F_X10_knowsNow G r0 x1 x2 x3 V = some (V', v)) : Rn X (0) 199 [.ref r0, .int (iI x1), .int (iI x2), .int (iI x3)] n z G V n z G V' none := by
  refine qv_toR (v := v) (L := [some (.ref r0), some (.int (iI x1)), some (.int (iI x2)), some (.int (iI x3))]) rfl ?_
  unfold F_X10_knowsNow at h
  refine t_l fX10_knowsNow_0 rfl rfl rfl rfl ?_
  refine k9_gr fX10_knowsNow_1 (hr0).1 kg_10_49 (s10_49r hr0) ?_
  refine t_s fX10_knowsNow_4 rfl rfl rfl ?_
  refine t_s fX10_knowsNow_5 rfl rfl rfl ?_
  refine t_l fX10_knowsNow_7 rfl rfl rfl rfl ?_
  refine k9_imul fX10_knowsNow_8 ?_
  refine k9_iadd fX10_knowsNow_9 ?_
  refine t_l fX10_knowsNow_10 rfl rfl rfl rfl ?_
  refine k9_iadd fX10_knowsNow_11 ?_
  refine t_l fX10_knowsNow_12 rfl rfl rfl rfl ?_
  obtain ⟨g1, h⟩ := gd_some h
  refine k9_is fX10_knowsNow_13 (s10_49s hr0) g1.1 g1.2.1 g1.2.2 ?_
  replace h := lt_some h
  refine t_ret fX10_knowsNow_14 rX10_knowsNow ?_
  exact qf_v h

theorem tb_X10_whoLives_2 {X : mX} {n z : Nat} {G : mG} {r0 : Nat} (hr0 : is10 G r0) {x1 x2 : Int} {V V' : mV} {q : Nat × Int} {Q : Nat → Nat → mG → mV → Option Value → Prop} (h0 : q.1 = 0 → T X (1) 200 2 [some (.ref r0), some (.int (iI x1)), some (.int (iI q.2))] [] n z G V' Q) (h1 : q.1 = 1 → T X (1) 200 19 [some (.ref r0), some (.int (iI x1)), some (.int (iI q.2))] [] n z G V' Q) (h2 : q.1 = 2 → T X (1) 200 27 [some (.ref r0), some (.int (iI x1)), some (.int (iI q.2))] [] n z G V' Q) (h : B_X10_whoLives_2 G r0 x1 x2 V = some (V', q)) : T X (1) 200 2 [some (.ref r0), some (.int (iI x1)), some (.int (iI x2))] [] n z G V Q := by
  unfold B_X10_whoLives_2 at h
  refine t_l fX10_whoLives_2 rfl rfl rfl rfl ?_
  refine t_l fX10_whoLives_3 rfl rfl rfl rfl ?_
  obtain ⟨V1, v2, e3, h⟩ := bd_some h
  refine kcX10_peopleMany fX10_whoLives_4 (hr0).1 rfl (q_X10_peopleMany (hr0) e3) (by decide) ?_
  obtain ⟨g5, h⟩ := gd_some h
  obtain ⟨g6, h⟩ := gd_some h
  refine k9_ic_ge fX10_whoLives_7 rfl g5 g6 (fun c4 => ?_) (fun c4 => ?_)
  · replace h := ite_t (c4) h
    cases h
    exact h2 rfl
  · replace h := ite_f (c4) h
    refine t_l fX10_whoLives_10 rfl rfl rfl rfl ?_
    refine t_l fX10_whoLives_11 rfl rfl rfl rfl ?_
    obtain ⟨V7, v8, e9, h⟩ := bd_some h
    refine kcX10_livesNow fX10_whoLives_12 (hr0).1 rfl (q_X10_livesNow (hr0) e9) (by decide) ?_
    refine t_l fX10_whoLives_15 rfl rfl rfl rfl ?_
    obtain ⟨g11, h⟩ := gd_some h
    obtain ⟨g12, h⟩ := gd_some h
    refine k9_ic_ne fX10_whoLives_16 rfl g11 g12 (fun c10 => ?_) (fun c10 => ?_)
    · replace h := ite_f (c10) h
      replace h := lt_some h
      refine k9_iinc fX10_whoLives_21 rfl (Nat.le_of_ble_eq_true rfl) rfl ?_
      refine k9_goto fX10_whoLives_24 rfl ?_
      cases h
      exact h0 rfl
    · replace h := ite_t (Classical.not_not.mp c10) h
      cases h
      exact h1 rfl

theorem tl_X10_whoLives_2 {X : mX} {n z : Nat} {G : mG} {r0 : Nat} (hr0 : is10 G r0) {x1 x2 : Int} {V V' : mV} {fu : Nat} {q : Nat × Int} {Q : Nat → Nat → mG → mV → Option Value → Prop} (k1 : q.1 = 1 → T X (1) 200 19 [some (.ref r0), some (.int (iI x1)), some (.int (iI q.2))] [] n z G V' Q) (k2 : q.1 = 2 → T X (1) 200 27 [some (.ref r0), some (.int (iI x1)), some (.int (iI q.2))] [] n z G V' Q) (h : lp (fun (s : Int) V => B_X10_whoLives_2 G r0 x1 s V) fu x2 V = some (V', q)) : T X (1) 200 2 [some (.ref r0), some (.int (iI x1)), some (.int (iI x2))] [] n z G V Q :=
  lp_go (P0 := fun s V => T X (1) 200 2 [some (.ref r0), some (.int (iI x1)), some (.int (iI s))] [] n z G V Q) (PE := fun t s V => (t = 1 → T X (1) 200 19 [some (.ref r0), some (.int (iI x1)), some (.int (iI s))] [] n z G V Q) ∧ (t = 2 → T X (1) 200 27 [some (.ref r0), some (.int (iI x1)), some (.int (iI s))] [] n z G V Q)) (fun s V V' q hb h0 h1 => tb_X10_whoLives_2 hr0  h0 (fun e => (h1 (by omega)).1 e) (fun e => (h1 (by omega)).2 e) hb) fu x2 V V' q h ⟨k1, k2⟩

theorem q_X10_whoLives {X : mX} {n z : Nat} {G : mG} {r0 : Nat} (hr0 : is10 G r0) {x1 : Int} {V V' : mV} {v : Int} (h : F_X10_whoLives G r0 x1 V = some (V', v)) : Rn X (1) 200 [.ref r0, .int (iI x1)] n z G V n z G V' (some (.int (iI v))) := by
  refine qi_toR (v := v) (L := [some (.ref r0), some (.int (iI x1)), none]) rfl ?_
  unfold F_X10_whoLives at h
  refine t_s fX10_whoLives_0 rfl rfl rfl ?_
  refine t_l fX10_whoLives_1 rfl rfl rfl rfl ?_
  obtain ⟨V14, u15, e16, h⟩ := bd_some h
  refine tl_X10_whoLives_2 hr0  (fun e17 => ?_) (fun e17 => ?_) e16
  · replace h := ite_t e17 h
    refine t_l fX10_whoLives_19 rfl rfl rfl rfl ?_
    refine t_ret fX10_whoLives_20 rX10_whoLives ?_
    exact qf_i h
  · replace h := ite_f (by omega) h
    refine t_s fX10_whoLives_27 rfl rfl rfl ?_
    refine t_ret fX10_whoLives_28 rX10_whoLives ?_
    exact qf_i h

theorem tb_X10_putsAside_2 {X : mX} {n z : Nat} {G : mG} {r0 : Nat} (hr0 : is10 G r0) {x1 : Int} {V V' : mV} {q : Nat × Int} {Q : Nat → Nat → mG → mV → Option Value → Prop} (h0 : q.1 = 0 → T X (0) 201 2 [some (.ref r0), some (.int (iI q.2))] [] n z G V' Q) (h1 : q.1 = 1 → T X (0) 201 27 [some (.ref r0), some (.int (iI q.2))] [] n z G V' Q) (h : B_X10_putsAside_2 G r0 x1 V = some (V', q)) : T X (0) 201 2 [some (.ref r0), some (.int (iI x1))] [] n z G V Q := by
  unfold B_X10_putsAside_2 at h
  refine t_l fX10_putsAside_2 rfl rfl rfl rfl ?_
  refine t_s fX10_putsAside_3 rfl rfl rfl ?_
  obtain ⟨g2, h⟩ := gd_some h
  refine k9_ic_ge fX10_putsAside_6 rfl g2 ⟨by decide, by decide⟩ (fun c1 => ?_) (fun c1 => ?_)
  · replace h := ite_t (c1) h
    cases h
    exact h1 rfl
  · replace h := ite_f (c1) h
    refine t_l fX10_putsAside_9 rfl rfl rfl rfl ?_
    refine k9_gr fX10_putsAside_10 (hr0).1 kg_10_50 (s10_50r hr0) ?_
    refine t_l fX10_putsAside_13 rfl rfl rfl rfl ?_
    refine t_l fX10_putsAside_14 rfl rfl rfl rfl ?_
    refine k9_gr fX10_putsAside_15 (hr0).1 kg_10_49 (s10_49r hr0) ?_
    refine t_l fX10_putsAside_18 rfl rfl rfl rfl ?_
    obtain ⟨g3, h⟩ := gd_some h
    refine k9_ia fX10_putsAside_19 (s10_49s hr0) g3.1 g3.2.1 g3.2.2 ?_
    refine k9_is fX10_putsAside_20 (s10_50s hr0) g3.1 g3.2.1 g3.2.2 ?_
    replace h := lt_some h
    replace h := lt_some h
    refine k9_iinc fX10_putsAside_21 rfl (Nat.le_of_ble_eq_true rfl) rfl ?_
    refine k9_goto fX10_putsAside_24 rfl ?_
    cases h
    exact h0 rfl

theorem tl_X10_putsAside_2 {X : mX} {n z : Nat} {G : mG} {r0 : Nat} (hr0 : is10 G r0) {x1 : Int} {V V' : mV} {fu : Nat} {q : Nat × Int} {Q : Nat → Nat → mG → mV → Option Value → Prop} (k1 : q.1 = 1 → T X (0) 201 27 [some (.ref r0), some (.int (iI q.2))] [] n z G V' Q) (h : lp (fun (s : Int) V => B_X10_putsAside_2 G r0 s V) fu x1 V = some (V', q)) : T X (0) 201 2 [some (.ref r0), some (.int (iI x1))] [] n z G V Q :=
  lp_go (P0 := fun s V => T X (0) 201 2 [some (.ref r0), some (.int (iI s))] [] n z G V Q) (PE := fun t s V => (t = 1 → T X (0) 201 27 [some (.ref r0), some (.int (iI s))] [] n z G V Q)) (fun s V V' q hb h0 h1 => tb_X10_putsAside_2 hr0  h0 (fun e => (h1 (by omega)) e) hb) fu x1 V V' q h k1

theorem q_X10_putsAside {X : mX} {n z : Nat} {G : mG} {r0 : Nat} (hr0 : is10 G r0) {V V' : mV} {v : Int} (h : F_X10_putsAside G r0 V = some (V', v)) : Rn X (0) 201 [.ref r0] n z G V n z G V' none := by
  refine qv_toR (v := v) (L := [some (.ref r0), none]) rfl ?_
  unfold F_X10_putsAside at h
  refine t_s fX10_putsAside_0 rfl rfl rfl ?_
  refine t_l fX10_putsAside_1 rfl rfl rfl rfl ?_
  obtain ⟨V6, u7, e8, h⟩ := bd_some h
  refine tl_X10_putsAside_2 hr0  (fun e9 => ?_) e8
  refine t_ret fX10_putsAside_27 rX10_putsAside ?_
  exact qf_v h

theorem tb_X10_takesBack_2 {X : mX} {n z : Nat} {G : mG} {r0 : Nat} (hr0 : is10 G r0) {x1 : Int} {V V' : mV} {q : Nat × Int} {Q : Nat → Nat → mG → mV → Option Value → Prop} (h0 : q.1 = 0 → T X (0) 202 2 [some (.ref r0), some (.int (iI q.2))] [] n z G V' Q) (h1 : q.1 = 1 → T X (0) 202 27 [some (.ref r0), some (.int (iI q.2))] [] n z G V' Q) (h : B_X10_takesBack_2 G r0 x1 V = some (V', q)) : T X (0) 202 2 [some (.ref r0), some (.int (iI x1))] [] n z G V Q := by
  unfold B_X10_takesBack_2 at h
  refine t_l fX10_takesBack_2 rfl rfl rfl rfl ?_
  refine t_s fX10_takesBack_3 rfl rfl rfl ?_
  obtain ⟨g2, h⟩ := gd_some h
  refine k9_ic_ge fX10_takesBack_6 rfl g2 ⟨by decide, by decide⟩ (fun c1 => ?_) (fun c1 => ?_)
  · replace h := ite_t (c1) h
    cases h
    exact h1 rfl
  · replace h := ite_f (c1) h
    refine t_l fX10_takesBack_9 rfl rfl rfl rfl ?_
    refine k9_gr fX10_takesBack_10 (hr0).1 kg_10_49 (s10_49r hr0) ?_
    refine t_l fX10_takesBack_13 rfl rfl rfl rfl ?_
    refine t_l fX10_takesBack_14 rfl rfl rfl rfl ?_
    refine k9_gr fX10_takesBack_15 (hr0).1 kg_10_50 (s10_50r hr0) ?_
    refine t_l fX10_takesBack_18 rfl rfl rfl rfl ?_
    obtain ⟨g3, h⟩ := gd_some h
    refine k9_ia fX10_takesBack_19 (s10_50s hr0) g3.1 g3.2.1 g3.2.2 ?_
    refine k9_is fX10_takesBack_20 (s10_49s hr0) g3.1 g3.2.1 g3.2.2 ?_
    replace h := lt_some h
    replace h := lt_some h
    refine k9_iinc fX10_takesBack_21 rfl (Nat.le_of_ble_eq_true rfl) rfl ?_
    refine k9_goto fX10_takesBack_24 rfl ?_
    cases h
    exact h0 rfl

theorem tl_X10_takesBack_2 {X : mX} {n z : Nat} {G : mG} {r0 : Nat} (hr0 : is10 G r0) {x1 : Int} {V V' : mV} {fu : Nat} {q : Nat × Int} {Q : Nat → Nat → mG → mV → Option Value → Prop} (k1 : q.1 = 1 → T X (0) 202 27 [some (.ref r0), some (.int (iI q.2))] [] n z G V' Q) (h : lp (fun (s : Int) V => B_X10_takesBack_2 G r0 s V) fu x1 V = some (V', q)) : T X (0) 202 2 [some (.ref r0), some (.int (iI x1))] [] n z G V Q :=
  lp_go (P0 := fun s V => T X (0) 202 2 [some (.ref r0), some (.int (iI s))] [] n z G V Q) (PE := fun t s V => (t = 1 → T X (0) 202 27 [some (.ref r0), some (.int (iI s))] [] n z G V Q)) (fun s V V' q hb h0 h1 => tb_X10_takesBack_2 hr0  h0 (fun e => (h1 (by omega)) e) hb) fu x1 V V' q h k1

theorem q_X10_takesBack {X : mX} {n z : Nat} {G : mG} {r0 : Nat} (hr0 : is10 G r0) {V V' : mV} {v : Int} (h : F_X10_takesBack G r0 V = some (V', v)) : Rn X (0) 202 [.ref r0] n z G V n z G V' none := by
  refine qv_toR (v := v) (L := [some (.ref r0), none]) rfl ?_
  unfold F_X10_takesBack at h
  refine t_s fX10_takesBack_0 rfl rfl rfl ?_
  refine t_l fX10_takesBack_1 rfl rfl rfl rfl ?_
  obtain ⟨V6, u7, e8, h⟩ := bd_some h
  refine tl_X10_takesBack_2 hr0  (fun e9 => ?_) e8
  refine t_ret fX10_takesBack_27 rX10_takesBack ?_
  exact qf_v h

theorem q_X10_qClip {X : mX} {n z : Nat} {G : mG}  {x0 : Int} {V V' : mV} {v : Int} (h : F_X10_qClip G x0 V = some (V', v)) : Rn X (0) 271 [.long (lI x0)] n z G V n z G V' (some (.long (lI v))) := by
  refine qj_toR (v := v) (L := [some (.long (lI x0)), none]) rfl ?_
  unfold F_X10_qClip at h
  refine t_l fX10_qClip_0 rfl rfl rfl rfl ?_
  refine t_s fX10_qClip_1 rfl rfl rfl ?_
  obtain ⟨g1, h⟩ := gd_some h
  refine k9_lcmp fX10_qClip_4 g1 ⟨by decide, by decide⟩ ?_
  refine k9_if_le fX10_qClip_5 rfl (cmp_rg _ _) (fun c2 => ?_) (fun c2 => ?_)
  · replace h := ite_t (cmp_le.mp c2) h
    refine t_l fX10_qClip_14 rfl rfl rfl rfl ?_
    refine t_s fX10_qClip_15 rfl rfl rfl ?_
    refine k9_lcmp fX10_qClip_18 g1 ⟨by decide, by decide⟩ ?_
    refine k9_if_ge fX10_qClip_19 rfl (cmp_rg _ _) (fun c3 => ?_) (fun c3 => ?_)
    · replace h := ite_t (cmp_ge.mp c3) h
      refine t_l fX10_qClip_28 rfl rfl rfl rfl ?_
      refine t_ret fX10_qClip_29 rX10_qClip ?_
      exact qf_j h
    · replace h := ite_f (fun q => c3 (cmp_ge.mpr q)) h
      refine t_s fX10_qClip_22 rfl rfl rfl ?_
      refine k9_goto fX10_qClip_25 rfl ?_
      refine t_ret fX10_qClip_29 rX10_qClip ?_
      exact qf_j h
  · replace h := ite_f (fun q => c2 (cmp_le.mpr q)) h
    refine t_s fX10_qClip_8 rfl rfl rfl ?_
    refine k9_goto fX10_qClip_11 rfl ?_
    refine t_ret fX10_qClip_29 rX10_qClip ?_
    exact qf_j h

theorem tj_X10_qFloor_J43 {X : mX} {n z : Nat} {G : mG}  {x0 x2 x4 s0 s1 : Int} {V V' : mV} {v : Int} (h : F_X10_qFloor_J43 G x0 x2 x4 s0 s1 V = some (V', v)) : T X (0) 272 43 [some (.long (lI x0)), none, some (.long (lI x2)), none, some (.long (lI x4)), none] [.int (iI s1), .int (iI s0)] n z G V (qj n z G V' v) := by
  unfold F_X10_qFloor_J43 at h
  obtain ⟨g12, h⟩ := gd_some h
  obtain ⟨g13, h⟩ := gd_some h
  refine k9_ic_eq fX10_qFloor_43 rfl g12 g13 (fun c11 => ?_) (fun c11 => ?_)
  · replace h := ite_t (c11) h
    refine t_l fX10_qFloor_53 rfl rfl rfl rfl ?_
    refine t_ret fX10_qFloor_55 rX10_qFloor ?_
    exact qf_j h
  · replace h := ite_f (c11) h
    refine t_l fX10_qFloor_46 rfl rfl rfl rfl ?_
    refine t_s fX10_qFloor_48 rfl rfl rfl ?_
    refine k9_lsub fX10_qFloor_49 ?_
    refine k9_goto fX10_qFloor_50 rfl ?_
    refine t_ret fX10_qFloor_55 rX10_qFloor ?_
    exact qf_j h

theorem tj_X10_qFloor_J32 {X : mX} {n z : Nat} {G : mG}  {x0 x2 x4 s0 : Int} {V V' : mV} {v : Int} (h : F_X10_qFloor_J32 G x0 x2 x4 s0 V = some (V', v)) : T X (0) 272 32 [some (.long (lI x0)), none, some (.long (lI x2)), none, some (.long (lI x4)), none] [.int (iI s0)] n z G V (qj n z G V' v) := by
  unfold F_X10_qFloor_J32 at h
  refine t_l fX10_qFloor_32 rfl rfl rfl rfl ?_
  refine t_s fX10_qFloor_33 rfl rfl rfl ?_
  obtain ⟨g9, h⟩ := gd_some h
  refine k9_lcmp fX10_qFloor_34 g9 ⟨by decide, by decide⟩ ?_
  refine k9_if_ge fX10_qFloor_35 rfl (cmp_rg _ _) (fun c10 => ?_) (fun c10 => ?_)
  · replace h := ite_t (cmp_ge.mp c10) h
    refine t_s fX10_qFloor_42 rfl rfl rfl ?_
    exact tj_X10_qFloor_J43    h
  · replace h := ite_f (fun q => c10 (cmp_ge.mpr q)) h
    refine t_s fX10_qFloor_38 rfl rfl rfl ?_
    refine k9_goto fX10_qFloor_39 rfl ?_
    exact tj_X10_qFloor_J43    h

theorem q_X10_qFloor {X : mX} {n z : Nat} {G : mG}  {x0 x2 : Int} {V V' : mV} {v : Int} (h : F_X10_qFloor G x0 x2 V = some (V', v)) : Rn X (0) 272 [.long (lI x0), .long (lI x2)] n z G V n z G V' (some (.long (lI v))) := by
  refine qj_toR (v := v) (L := [some (.long (lI x0)), none, some (.long (lI x2)), none, none, none]) rfl ?_
  unfold F_X10_qFloor at h
  refine t_l fX10_qFloor_0 rfl rfl rfl rfl ?_
  refine t_s fX10_qFloor_1 rfl rfl rfl ?_
  obtain ⟨g1, h⟩ := gd_some h
  refine k9_lcmp fX10_qFloor_2 g1 ⟨by decide, by decide⟩ ?_
  refine k9_if_ne fX10_qFloor_3 rfl (cmp_rg _ _) (fun c2 => ?_) (fun c2 => ?_)
  · replace h := ite_f (fun q => c2 (cmp_eq.mpr q)) h
    refine t_l fX10_qFloor_8 rfl rfl rfl rfl ?_
    refine t_l fX10_qFloor_9 rfl rfl rfl rfl ?_
    obtain ⟨g3, h⟩ := gd_some h
    obtain ⟨g4, h⟩ := gd_some h
    refine k9_ldiv fX10_qFloor_10 g3 g1 g4 ?_
    replace h := lt_some h
    refine t_l fX10_qFloor_11 rfl rfl rfl rfl ?_
    refine t_l fX10_qFloor_13 rfl rfl rfl rfl ?_
    refine t_l fX10_qFloor_14 rfl rfl rfl rfl ?_
    refine k9_lrem fX10_qFloor_15 g3 g1 g4 ?_
    refine t_s fX10_qFloor_16 rfl rfl rfl ?_
    obtain ⟨g6, h⟩ := gd_some h
    refine k9_lcmp fX10_qFloor_17 g6 ⟨by decide, by decide⟩ ?_
    refine k9_if_eq fX10_qFloor_18 rfl (cmp_rg _ _) (fun c7 => ?_) (fun c7 => ?_)
    · replace h := ite_t (cmp_eq.mp c7) h
      refine t_l fX10_qFloor_53 rfl rfl rfl rfl ?_
      refine t_ret fX10_qFloor_55 rX10_qFloor ?_
      exact qf_j h
    · replace h := ite_f (fun q => c7 (cmp_eq.mpr q)) h
      refine t_l fX10_qFloor_21 rfl rfl rfl rfl ?_
      refine t_s fX10_qFloor_22 rfl rfl rfl ?_
      refine k9_lcmp fX10_qFloor_23 g3 ⟨by decide, by decide⟩ ?_
      refine k9_if_ge fX10_qFloor_24 rfl (cmp_rg _ _) (fun c8 => ?_) (fun c8 => ?_)
      · replace h := ite_t (cmp_ge.mp c8) h
        refine t_s fX10_qFloor_31 rfl rfl rfl ?_
        exact tj_X10_qFloor_J32    h
      · replace h := ite_f (fun q => c8 (cmp_ge.mpr q)) h
        refine t_s fX10_qFloor_27 rfl rfl rfl ?_
        refine k9_goto fX10_qFloor_28 rfl ?_
        exact tj_X10_qFloor_J32    h
  · replace h := ite_t (Classical.byContradiction fun q => c2 (fun w => q (cmp_eq.mp w))) h
    refine t_s fX10_qFloor_6 rfl rfl rfl ?_
    refine t_ret fX10_qFloor_7 rX10_qFloor ?_
    exact qf_j h

theorem q_X10_qPuts {X : mX} {n z : Nat} {G : mG} {r0 : Nat} (hr0 : is10 G r0) {x1 : Int} {V V' : mV} {v : Int} (h : F_X10_qPuts G r0 x1 V = some (V', v)) : Rn X (0) 273 [.ref r0, .long (lI x1)] n z G V n z G V' none := by
  refine qv_toR (v := v) (L := [some (.ref r0), some (.long (lI x1)), none]) rfl ?_
  unfold F_X10_qPuts at h
  refine t_l fX10_qPuts_0 rfl rfl rfl rfl ?_
  refine k9_gr fX10_qPuts_1 (hr0).1 kg_10_103 (s10_103r hr0) ?_
  refine t_l fX10_qPuts_4 rfl rfl rfl rfl ?_
  refine k9_gi fX10_qPuts_5 (hr0).1 kg_10_104 ?_
  refine t_l fX10_qPuts_8 rfl rfl rfl rfl ?_
  obtain ⟨g1, h⟩ := gd_some h
  refine k9_ls fX10_qPuts_9 (s10_103s hr0) g1.1 g1.2.1 g1.2.2 ?_
  replace h := lt_some h
  refine t_l fX10_qPuts_10 rfl rfl rfl rfl ?_
  refine t_s fX10_qPuts_11 rfl rfl rfl ?_
  refine k9_gi fX10_qPuts_12 (hr0).1 kg_10_104 ?_
  refine t_s fX10_qPuts_15 rfl rfl rfl ?_
  refine k9_iadd fX10_qPuts_16 ?_
  refine k9_pi fX10_qPuts_17 (hr0).1 kp_10_104 ?_
  replace h := lt_some h
  refine t_ret fX10_qPuts_20 rX10_qPuts ?_
  exact qf_v h

theorem q_X10_qJoins {X : mX} {n z : Nat} {G : mG} {r0 : Nat} (hr0 : is10 G r0) {x1 : Int} {V V' : mV} {v : Int} (h : F_X10_qJoins G r0 x1 V = some (V', v)) : Rn X (1) 274 [.ref r0, .int (iI x1)] n z G V n z G V' none := by
  refine qv_toR (v := v) (L := [some (.ref r0), some (.int (iI x1)), none, none, none, none]) rfl ?_
  unfold F_X10_qJoins at h
  refine t_l fX10_qJoins_0 rfl rfl rfl rfl ?_
  refine k9_gr fX10_qJoins_1 (hr0).1 kg_10_103 (s10_103r hr0) ?_
  refine t_l fX10_qJoins_4 rfl rfl rfl rfl ?_
  refine k9_gi fX10_qJoins_5 (hr0).1 kg_10_104 ?_
  refine t_s fX10_qJoins_8 rfl rfl rfl ?_
  refine k9_isub fX10_qJoins_9 ?_
  obtain ⟨g1, h⟩ := gd_some h
  refine k9_la fX10_qJoins_10 (s10_103s hr0) g1.1 g1.2.1 g1.2.2 ?_
  replace h := lt_some h
  refine t_l fX10_qJoins_11 rfl rfl rfl rfl ?_
  refine t_l fX10_qJoins_12 rfl rfl rfl rfl ?_
  refine k9_gr fX10_qJoins_13 (hr0).1 kg_10_103 (s10_103r hr0) ?_
  refine t_l fX10_qJoins_16 rfl rfl rfl rfl ?_
  refine k9_gi fX10_qJoins_17 (hr0).1 kg_10_104 ?_
  refine t_s fX10_qJoins_20 rfl rfl rfl ?_
  refine k9_isub fX10_qJoins_21 ?_
  obtain ⟨g3, h⟩ := gd_some h
  refine k9_la fX10_qJoins_22 (s10_103s hr0) g3.1 g3.2.1 g3.2.2 ?_
  replace h := lt_some h
  refine t_l fX10_qJoins_23 rfl rfl rfl rfl ?_
  refine t_l fX10_qJoins_25 rfl rfl rfl rfl ?_
  refine t_s fX10_qJoins_26 rfl rfl rfl ?_
  refine k9_gi fX10_qJoins_27 (hr0).1 kg_10_104 ?_
  refine t_s fX10_qJoins_30 rfl rfl rfl ?_
  refine k9_isub fX10_qJoins_31 ?_
  refine k9_pi fX10_qJoins_32 (hr0).1 kp_10_104 ?_
  replace h := lt_some h
  refine t_l fX10_qJoins_35 rfl rfl rfl rfl ?_
  obtain ⟨g6, h⟩ := gd_some h
  by_cases c7 : x1 = 1
  · replace h := ite_t c7 h
    refine k9_sw 92 fX10_qJoins_36 g6 (by rw [c7]; rfl) (by rw [c7]; exact Or.inr (Or.inr rfl)) ?_
    refine t_l fX10_qJoins_92 rfl rfl rfl rfl ?_
    refine t_l fX10_qJoins_93 rfl rfl rfl rfl ?_
    refine t_l fX10_qJoins_95 rfl rfl rfl rfl ?_
    refine k9_ladd fX10_qJoins_96 ?_
    obtain ⟨V8, v9, e10, h⟩ := bd_some h
    refine kcX10_qClip fX10_qJoins_97 rfl (q_X10_qClip  e10) (by decide) ?_
    obtain ⟨V11, v12, e13, h⟩ := bd_some h
    refine kcX10_qPuts fX10_qJoins_100 (hr0).1 rfl (q_X10_qPuts (hr0) e13) (by decide) ?_
    refine k9_goto fX10_qJoins_103 rfl ?_
    refine t_ret fX10_qJoins_273 rX10_qJoins ?_
    exact qf_v h
  replace h := ite_f c7 h
  by_cases c14 : x1 = 2
  · replace h := ite_t c14 h
    refine k9_sw 106 fX10_qJoins_36 g6 (by rw [c14]; rfl) (by rw [c14]; exact Or.inr (Or.inr rfl)) ?_
    refine t_l fX10_qJoins_106 rfl rfl rfl rfl ?_
    refine t_l fX10_qJoins_107 rfl rfl rfl rfl ?_
    refine t_l fX10_qJoins_109 rfl rfl rfl rfl ?_
    refine k9_lsub fX10_qJoins_110 ?_
    obtain ⟨V15, v16, e17, h⟩ := bd_some h
    refine kcX10_qClip fX10_qJoins_111 rfl (q_X10_qClip  e17) (by decide) ?_
    obtain ⟨V18, v19, e20, h⟩ := bd_some h
    refine kcX10_qPuts fX10_qJoins_114 (hr0).1 rfl (q_X10_qPuts (hr0) e20) (by decide) ?_
    refine k9_goto fX10_qJoins_117 rfl ?_
    refine t_ret fX10_qJoins_273 rX10_qJoins ?_
    exact qf_v h
  replace h := ite_f c14 h
  by_cases c21 : x1 = 3
  · replace h := ite_t c21 h
    refine k9_sw 120 fX10_qJoins_36 g6 (by rw [c21]; rfl) (by rw [c21]; exact Or.inr (Or.inr rfl)) ?_
    refine t_l fX10_qJoins_120 rfl rfl rfl rfl ?_
    refine t_l fX10_qJoins_121 rfl rfl rfl rfl ?_
    refine t_l fX10_qJoins_123 rfl rfl rfl rfl ?_
    refine k9_lmul fX10_qJoins_124 ?_
    obtain ⟨V22, v23, e24, h⟩ := bd_some h
    refine kcX10_qClip fX10_qJoins_125 rfl (q_X10_qClip  e24) (by decide) ?_
    obtain ⟨V25, v26, e27, h⟩ := bd_some h
    refine kcX10_qPuts fX10_qJoins_128 (hr0).1 rfl (q_X10_qPuts (hr0) e27) (by decide) ?_
    refine k9_goto fX10_qJoins_131 rfl ?_
    refine t_ret fX10_qJoins_273 rX10_qJoins ?_
    exact qf_v h
  replace h := ite_f c21 h
  by_cases c28 : x1 = 4
  · replace h := ite_t c28 h
    refine k9_sw 134 fX10_qJoins_36 g6 (by rw [c28]; rfl) (by rw [c28]; exact Or.inr (Or.inr rfl)) ?_
    refine t_l fX10_qJoins_134 rfl rfl rfl rfl ?_
    refine t_l fX10_qJoins_135 rfl rfl rfl rfl ?_
    refine t_l fX10_qJoins_137 rfl rfl rfl rfl ?_
    obtain ⟨V29, v30, e31, h⟩ := bd_some h
    refine kcX10_qFloor fX10_qJoins_138 rfl (q_X10_qFloor  e31) (by decide) ?_
    obtain ⟨V32, v33, e34, h⟩ := bd_some h
    refine kcX10_qPuts fX10_qJoins_141 (hr0).1 rfl (q_X10_qPuts (hr0) e34) (by decide) ?_
    refine k9_goto fX10_qJoins_144 rfl ?_
    refine t_ret fX10_qJoins_273 rX10_qJoins ?_
    exact qf_v h
  replace h := ite_f c28 h
  by_cases c35 : x1 = 5
  · replace h := ite_t c35 h
    refine k9_sw 147 fX10_qJoins_36 g6 (by rw [c35]; rfl) (by rw [c35]; exact Or.inr (Or.inr rfl)) ?_
    refine t_l fX10_qJoins_147 rfl rfl rfl rfl ?_
    refine t_l fX10_qJoins_148 rfl rfl rfl rfl ?_
    refine t_l fX10_qJoins_150 rfl rfl rfl rfl ?_
    obtain ⟨g36, h⟩ := gd_some h
    obtain ⟨g37, h⟩ := gd_some h
    refine k9_lcmp fX10_qJoins_151 g36 g37 ?_
    refine k9_if_ge fX10_qJoins_152 rfl (cmp_rg _ _) (fun c38 => ?_) (fun c38 => ?_)
    · replace h := ite_t (cmp_ge.mp c38) h
      refine t_l fX10_qJoins_160 rfl rfl rfl rfl ?_
      obtain ⟨V39, v40, e41, h⟩ := bd_some h
      refine kcX10_qPuts fX10_qJoins_161 (hr0).1 rfl (q_X10_qPuts (hr0) e41) (by decide) ?_
      refine k9_goto fX10_qJoins_164 rfl ?_
      refine t_ret fX10_qJoins_273 rX10_qJoins ?_
      exact qf_v h
    · replace h := ite_f (fun q => c38 (cmp_ge.mpr q)) h
      refine t_l fX10_qJoins_155 rfl rfl rfl rfl ?_
      refine k9_goto fX10_qJoins_157 rfl ?_
      obtain ⟨V42, v43, e44, h⟩ := bd_some h
      refine kcX10_qPuts fX10_qJoins_161 (hr0).1 rfl (q_X10_qPuts (hr0) e44) (by decide) ?_
      refine k9_goto fX10_qJoins_164 rfl ?_
      refine t_ret fX10_qJoins_273 rX10_qJoins ?_
      exact qf_v h
  replace h := ite_f c35 h
  by_cases c45 : x1 = 6
  · replace h := ite_t c45 h
    refine k9_sw 167 fX10_qJoins_36 g6 (by rw [c45]; rfl) (by rw [c45]; exact Or.inr (Or.inr rfl)) ?_
    refine t_l fX10_qJoins_167 rfl rfl rfl rfl ?_
    refine t_l fX10_qJoins_168 rfl rfl rfl rfl ?_
    refine t_l fX10_qJoins_170 rfl rfl rfl rfl ?_
    obtain ⟨g46, h⟩ := gd_some h
    obtain ⟨g47, h⟩ := gd_some h
    refine k9_lcmp fX10_qJoins_171 g46 g47 ?_
    refine k9_if_le fX10_qJoins_172 rfl (cmp_rg _ _) (fun c48 => ?_) (fun c48 => ?_)
    · replace h := ite_t (cmp_le.mp c48) h
      refine t_l fX10_qJoins_180 rfl rfl rfl rfl ?_
      obtain ⟨V49, v50, e51, h⟩ := bd_some h
      refine kcX10_qPuts fX10_qJoins_181 (hr0).1 rfl (q_X10_qPuts (hr0) e51) (by decide) ?_
      refine k9_goto fX10_qJoins_184 rfl ?_
      refine t_ret fX10_qJoins_273 rX10_qJoins ?_
      exact qf_v h
    · replace h := ite_f (fun q => c48 (cmp_le.mpr q)) h
      refine t_l fX10_qJoins_175 rfl rfl rfl rfl ?_
      refine k9_goto fX10_qJoins_177 rfl ?_
      obtain ⟨V52, v53, e54, h⟩ := bd_some h
      refine kcX10_qPuts fX10_qJoins_181 (hr0).1 rfl (q_X10_qPuts (hr0) e54) (by decide) ?_
      refine k9_goto fX10_qJoins_184 rfl ?_
      refine t_ret fX10_qJoins_273 rX10_qJoins ?_
      exact qf_v h
  replace h := ite_f c45 h
  by_cases c55 : x1 = 7
  · replace h := ite_t c55 h
    refine k9_sw 187 fX10_qJoins_36 g6 (by rw [c55]; rfl) (by rw [c55]; exact Or.inr (Or.inr rfl)) ?_
    refine t_l fX10_qJoins_187 rfl rfl rfl rfl ?_
    refine t_l fX10_qJoins_188 rfl rfl rfl rfl ?_
    refine t_l fX10_qJoins_190 rfl rfl rfl rfl ?_
    obtain ⟨g56, h⟩ := gd_some h
    obtain ⟨g57, h⟩ := gd_some h
    refine k9_lcmp fX10_qJoins_191 g56 g57 ?_
    refine k9_if_ge fX10_qJoins_192 rfl (cmp_rg _ _) (fun c58 => ?_) (fun c58 => ?_)
    · replace h := ite_t (cmp_ge.mp c58) h
      refine t_s fX10_qJoins_199 rfl rfl rfl ?_
      obtain ⟨V59, v60, e61, h⟩ := bd_some h
      refine kcX10_qPuts fX10_qJoins_200 (hr0).1 rfl (q_X10_qPuts (hr0) e61) (by decide) ?_
      refine k9_goto fX10_qJoins_203 rfl ?_
      refine t_ret fX10_qJoins_273 rX10_qJoins ?_
      exact qf_v h
    · replace h := ite_f (fun q => c58 (cmp_ge.mpr q)) h
      refine t_s fX10_qJoins_195 rfl rfl rfl ?_
      refine k9_goto fX10_qJoins_196 rfl ?_
      obtain ⟨V62, v63, e64, h⟩ := bd_some h
      refine kcX10_qPuts fX10_qJoins_200 (hr0).1 rfl (q_X10_qPuts (hr0) e64) (by decide) ?_
      refine k9_goto fX10_qJoins_203 rfl ?_
      refine t_ret fX10_qJoins_273 rX10_qJoins ?_
      exact qf_v h
  replace h := ite_f c55 h
  by_cases c65 : x1 = 8
  · replace h := ite_t c65 h
    refine k9_sw 206 fX10_qJoins_36 g6 (by rw [c65]; rfl) (by rw [c65]; exact Or.inr (Or.inr rfl)) ?_
    refine t_l fX10_qJoins_206 rfl rfl rfl rfl ?_
    refine t_l fX10_qJoins_207 rfl rfl rfl rfl ?_
    refine t_l fX10_qJoins_209 rfl rfl rfl rfl ?_
    obtain ⟨g66, h⟩ := gd_some h
    obtain ⟨g67, h⟩ := gd_some h
    refine k9_lcmp fX10_qJoins_210 g66 g67 ?_
    refine k9_if_le fX10_qJoins_211 rfl (cmp_rg _ _) (fun c68 => ?_) (fun c68 => ?_)
    · replace h := ite_t (cmp_le.mp c68) h
      refine t_s fX10_qJoins_218 rfl rfl rfl ?_
      obtain ⟨V69, v70, e71, h⟩ := bd_some h
      refine kcX10_qPuts fX10_qJoins_219 (hr0).1 rfl (q_X10_qPuts (hr0) e71) (by decide) ?_
      refine k9_goto fX10_qJoins_222 rfl ?_
      refine t_ret fX10_qJoins_273 rX10_qJoins ?_
      exact qf_v h
    · replace h := ite_f (fun q => c68 (cmp_le.mpr q)) h
      refine t_s fX10_qJoins_214 rfl rfl rfl ?_
      refine k9_goto fX10_qJoins_215 rfl ?_
      obtain ⟨V72, v73, e74, h⟩ := bd_some h
      refine kcX10_qPuts fX10_qJoins_219 (hr0).1 rfl (q_X10_qPuts (hr0) e74) (by decide) ?_
      refine k9_goto fX10_qJoins_222 rfl ?_
      refine t_ret fX10_qJoins_273 rX10_qJoins ?_
      exact qf_v h
  replace h := ite_f c65 h
  by_cases c75 : x1 = 9
  · replace h := ite_t c75 h
    refine k9_sw 225 fX10_qJoins_36 g6 (by rw [c75]; rfl) (by rw [c75]; exact Or.inr (Or.inr rfl)) ?_
    refine t_l fX10_qJoins_225 rfl rfl rfl rfl ?_
    refine t_l fX10_qJoins_226 rfl rfl rfl rfl ?_
    refine t_l fX10_qJoins_228 rfl rfl rfl rfl ?_
    obtain ⟨g76, h⟩ := gd_some h
    obtain ⟨g77, h⟩ := gd_some h
    refine k9_lcmp fX10_qJoins_229 g76 g77 ?_
    refine k9_if_ne fX10_qJoins_230 rfl (cmp_rg _ _) (fun c78 => ?_) (fun c78 => ?_)
    · replace h := ite_f (fun q => c78 (cmp_eq.mpr q)) h
      refine t_s fX10_qJoins_237 rfl rfl rfl ?_
      obtain ⟨V79, v80, e81, h⟩ := bd_some h
      refine kcX10_qPuts fX10_qJoins_238 (hr0).1 rfl (q_X10_qPuts (hr0) e81) (by decide) ?_
      refine k9_goto fX10_qJoins_241 rfl ?_
      refine t_ret fX10_qJoins_273 rX10_qJoins ?_
      exact qf_v h
    · replace h := ite_t (Classical.byContradiction fun q => c78 (fun w => q (cmp_eq.mp w))) h
      refine t_s fX10_qJoins_233 rfl rfl rfl ?_
      refine k9_goto fX10_qJoins_234 rfl ?_
      obtain ⟨V82, v83, e84, h⟩ := bd_some h
      refine kcX10_qPuts fX10_qJoins_238 (hr0).1 rfl (q_X10_qPuts (hr0) e84) (by decide) ?_
      refine k9_goto fX10_qJoins_241 rfl ?_
      refine t_ret fX10_qJoins_273 rX10_qJoins ?_
      exact qf_v h
  replace h := ite_f c75 h
  by_cases c85 : x1 = 10
  · replace h := ite_t c85 h
    refine k9_sw 244 fX10_qJoins_36 g6 (by rw [c85]; rfl) (by rw [c85]; exact Or.inr (Or.inr rfl)) ?_
    refine t_l fX10_qJoins_244 rfl rfl rfl rfl ?_
    refine t_l fX10_qJoins_245 rfl rfl rfl rfl ?_
    refine t_l fX10_qJoins_247 rfl rfl rfl rfl ?_
    refine k9_lmul fX10_qJoins_248 ?_
    obtain ⟨V86, v87, e88, h⟩ := bd_some h
    refine kcX10_qPuts fX10_qJoins_249 (hr0).1 rfl (q_X10_qPuts (hr0) e88) (by decide) ?_
    refine k9_goto fX10_qJoins_252 rfl ?_
    refine t_ret fX10_qJoins_273 rX10_qJoins ?_
    exact qf_v h
  replace h := ite_f c85 h
  have hd36 : (x1 < 1 ∨ 10 < x1) := by omega
  refine k9_sw 255 fX10_qJoins_36 g6 (by rw [if_pos hd36]; rfl) (by omega) ?_
  refine t_l fX10_qJoins_255 rfl rfl rfl rfl ?_
  refine t_l fX10_qJoins_256 rfl rfl rfl rfl ?_
  refine t_l fX10_qJoins_258 rfl rfl rfl rfl ?_
  refine k9_ladd fX10_qJoins_259 ?_
  refine t_s fX10_qJoins_260 rfl rfl rfl ?_
  obtain ⟨g89, h⟩ := gd_some h
  refine k9_lcmp fX10_qJoins_261 g89 ⟨by decide, by decide⟩ ?_
  refine k9_if_le fX10_qJoins_262 rfl (cmp_rg _ _) (fun c90 => ?_) (fun c90 => ?_)
  · replace h := ite_t (cmp_le.mp c90) h
    refine t_s fX10_qJoins_269 rfl rfl rfl ?_
    obtain ⟨V91, v92, e93, h⟩ := bd_some h
    refine kcX10_qPuts fX10_qJoins_270 (hr0).1 rfl (q_X10_qPuts (hr0) e93) (by decide) ?_
    refine t_ret fX10_qJoins_273 rX10_qJoins ?_
    exact qf_v h
  · replace h := ite_f (fun q => c90 (cmp_le.mpr q)) h
    refine t_s fX10_qJoins_265 rfl rfl rfl ?_
    refine k9_goto fX10_qJoins_266 rfl ?_
    obtain ⟨V94, v95, e96, h⟩ := bd_some h
    refine kcX10_qPuts fX10_qJoins_270 (hr0).1 rfl (q_X10_qPuts (hr0) e96) (by decide) ?_
    refine t_ret fX10_qJoins_273 rX10_qJoins ?_
    exact qf_v h

theorem q_X10_qPartOf {X : mX} {n z : Nat} {G : mG} {r0 : Nat} (hr0 : is10 G r0) {x1 x2 : Int} {V V' : mV} {v : Int} (h : F_X10_qPartOf G r0 x1 x2 V = some (V', v)) : Rn X (1) 275 [.ref r0, .int (iI x1), .int (iI x2)] n z G V n z G V' (some (.long (lI v))) := by
  refine qj_toR (v := v) (L := [some (.ref r0), some (.int (iI x1)), some (.int (iI x2))]) rfl ?_
  unfold F_X10_qPartOf at h
  refine t_l fX10_qPartOf_0 rfl rfl rfl rfl ?_
  obtain ⟨g1, h⟩ := gd_some h
  by_cases c2 : x1 = 0
  · replace h := ite_t c2 h
    refine k9_sw 52 fX10_qPartOf_1 g1 (by rw [c2]; rfl) (by rw [c2]; exact Or.inr (Or.inr rfl)) ?_
    refine t_l fX10_qPartOf_52 rfl rfl rfl rfl ?_
    refine k9_gj fX10_qPartOf_53 (hr0).1 kg_10_51 ?_
    refine t_ret fX10_qPartOf_56 rX10_qPartOf ?_
    exact qf_j h
  replace h := ite_f c2 h
  by_cases c3 : x1 = 1
  · replace h := ite_t c3 h
    refine k9_sw 57 fX10_qPartOf_1 g1 (by rw [c3]; rfl) (by rw [c3]; exact Or.inr (Or.inr rfl)) ?_
    refine t_l fX10_qPartOf_57 rfl rfl rfl rfl ?_
    refine k9_gj fX10_qPartOf_58 (hr0).1 kg_10_52 ?_
    refine t_ret fX10_qPartOf_61 rX10_qPartOf ?_
    exact qf_j h
  replace h := ite_f c3 h
  by_cases c4 : x1 = 2
  · replace h := ite_t c4 h
    refine k9_sw 62 fX10_qPartOf_1 g1 (by rw [c4]; rfl) (by rw [c4]; exact Or.inr (Or.inr rfl)) ?_
    refine t_l fX10_qPartOf_62 rfl rfl rfl rfl ?_
    refine k9_gj fX10_qPartOf_63 (hr0).1 kg_10_53 ?_
    refine t_ret fX10_qPartOf_66 rX10_qPartOf ?_
    exact qf_j h
  replace h := ite_f c4 h
  by_cases c5 : x1 = 3
  · replace h := ite_t c5 h
    refine k9_sw 67 fX10_qPartOf_1 g1 (by rw [c5]; rfl) (by rw [c5]; exact Or.inr (Or.inr rfl)) ?_
    refine t_l fX10_qPartOf_67 rfl rfl rfl rfl ?_
    refine k9_gj fX10_qPartOf_68 (hr0).1 kg_10_54 ?_
    refine t_ret fX10_qPartOf_71 rX10_qPartOf ?_
    exact qf_j h
  replace h := ite_f c5 h
  by_cases c6 : x1 = 4
  · replace h := ite_t c6 h
    refine k9_sw 72 fX10_qPartOf_1 g1 (by rw [c6]; rfl) (by rw [c6]; exact Or.inr (Or.inr rfl)) ?_
    refine t_l fX10_qPartOf_72 rfl rfl rfl rfl ?_
    refine k9_gj fX10_qPartOf_73 (hr0).1 kg_10_55 ?_
    refine t_ret fX10_qPartOf_76 rX10_qPartOf ?_
    exact qf_j h
  replace h := ite_f c6 h
  by_cases c7 : x1 = 5
  · replace h := ite_t c7 h
    refine k9_sw 77 fX10_qPartOf_1 g1 (by rw [c7]; rfl) (by rw [c7]; exact Or.inr (Or.inr rfl)) ?_
    refine t_l fX10_qPartOf_77 rfl rfl rfl rfl ?_
    refine k9_gj fX10_qPartOf_78 (hr0).1 kg_10_56 ?_
    refine t_ret fX10_qPartOf_81 rX10_qPartOf ?_
    exact qf_j h
  replace h := ite_f c7 h
  by_cases c8 : x1 = 6
  · replace h := ite_t c8 h
    refine k9_sw 82 fX10_qPartOf_1 g1 (by rw [c8]; rfl) (by rw [c8]; exact Or.inr (Or.inr rfl)) ?_
    refine t_l fX10_qPartOf_82 rfl rfl rfl rfl ?_
    refine k9_gj fX10_qPartOf_83 (hr0).1 kg_10_57 ?_
    refine t_ret fX10_qPartOf_86 rX10_qPartOf ?_
    exact qf_j h
  replace h := ite_f c8 h
  by_cases c9 : x1 = 7
  · replace h := ite_t c9 h
    refine k9_sw 87 fX10_qPartOf_1 g1 (by rw [c9]; rfl) (by rw [c9]; exact Or.inr (Or.inr rfl)) ?_
    refine t_l fX10_qPartOf_87 rfl rfl rfl rfl ?_
    refine k9_gr fX10_qPartOf_88 (hr0).1 kg_10_49 (s10_49r hr0) ?_
    refine t_s fX10_qPartOf_91 rfl rfl rfl ?_
    refine k9_ia fX10_qPartOf_92 (s10_49s hr0) (by decide) (by decide) (by decide) ?_
    obtain ⟨g10, h⟩ := gd_some h
    refine k9_i2l fX10_qPartOf_93 g10 ?_
    refine t_ret fX10_qPartOf_94 rX10_qPartOf ?_
    exact qf_j h
  replace h := ite_f c9 h
  by_cases c11 : x1 = 8
  · replace h := ite_t c11 h
    refine k9_sw 95 fX10_qPartOf_1 g1 (by rw [c11]; rfl) (by rw [c11]; exact Or.inr (Or.inr rfl)) ?_
    refine t_l fX10_qPartOf_95 rfl rfl rfl rfl ?_
    refine t_l fX10_qPartOf_96 rfl rfl rfl rfl ?_
    refine k9_gi fX10_qPartOf_97 (hr0).1 kg_10_58 ?_
    obtain ⟨V12, v13, e14, h⟩ := bd_some h
    refine kcX10_livesNow fX10_qPartOf_100 (hr0).1 rfl (q_X10_livesNow (hr0) e14) (by decide) ?_
    refine t_s fX10_qPartOf_103 rfl rfl rfl ?_
    obtain ⟨g16, h⟩ := gd_some h
    refine k9_ic_ne fX10_qPartOf_104 rfl g16 ⟨by decide, by decide⟩ (fun c15 => ?_) (fun c15 => ?_)
    · replace h := ite_f (c15) h
      refine t_l fX10_qPartOf_113 rfl rfl rfl rfl ?_
      refine t_l fX10_qPartOf_114 rfl rfl rfl rfl ?_
      refine k9_gi fX10_qPartOf_115 (hr0).1 kg_10_58 ?_
      obtain ⟨V17, v18, e19, h⟩ := bd_some h
      refine kcX10_livesNow fX10_qPartOf_118 (hr0).1 rfl (q_X10_livesNow (hr0) e19) (by decide) ?_
      obtain ⟨g20, h⟩ := gd_some h
      refine k9_i2l fX10_qPartOf_121 g20 ?_
      refine t_ret fX10_qPartOf_122 rX10_qPartOf ?_
      exact qf_j h
    · replace h := ite_t (Classical.not_not.mp c15) h
      refine t_s fX10_qPartOf_107 rfl rfl rfl ?_
      refine k9_goto fX10_qPartOf_110 rfl ?_
      refine t_ret fX10_qPartOf_122 rX10_qPartOf ?_
      exact qf_j h
  replace h := ite_f c11 h
  have hd1 : (x1 < 0 ∨ 8 < x1) := by omega
  refine k9_sw 123 fX10_qPartOf_1 g1 (by rw [if_pos hd1]; rfl) (by omega) ?_
  refine t_l fX10_qPartOf_123 rfl rfl rfl rfl ?_
  refine k9_gr fX10_qPartOf_124 (hr0).1 kg_10_60 (s10_60r hr0) ?_
  refine t_l fX10_qPartOf_127 rfl rfl rfl rfl ?_
  refine k9_gi fX10_qPartOf_128 (hr0).1 kg_10_58 ?_
  obtain ⟨g21, h⟩ := gd_some h
  refine k9_ia fX10_qPartOf_131 (s10_60s hr0) g21.1 g21.2.1 g21.2.2 ?_
  obtain ⟨g22, h⟩ := gd_some h
  refine k9_i2l fX10_qPartOf_132 g22 ?_
  refine t_ret fX10_qPartOf_133 rX10_qPartOf ?_
  exact qf_j h

theorem tb_X10_codesTell_14 {X : mX} {n z : Nat} {G : mG} {r0 : Nat} (hr0 : is10 G r0) {x1 x2 : Int} {j3 : Option Value} {V V' : mV} {q : Nat × Int} {Q : Nat → Nat → mG → mV → Option Value → Prop} (h0 : q.1 = 0 → ∀ j3 : Option Value, T X (2) 203 14 [some (.ref r0), some (.int (iI x1)), some (.int (iI q.2)), j3] [] n z G V' Q) (h1 : q.1 = 1 → ∀ j3 : Option Value, T X (2) 203 137 [some (.ref r0), some (.int (iI x1)), some (.int (iI q.2)), j3] [] n z G V' Q) (h : B_X10_codesTell_14 G r0 x1 x2 V = some (V', q)) : T X (2) 203 14 [some (.ref r0), some (.int (iI x1)), some (.int (iI x2)), j3] [] n z G V Q := by
  unfold B_X10_codesTell_14 at h
  refine t_l fX10_codesTell_14 rfl rfl rfl rfl ?_
  refine t_l fX10_codesTell_15 rfl rfl rfl rfl ?_
  refine k9_gr fX10_codesTell_16 (hr0).1 kg_10_44 (s10_44r hr0) ?_
  refine t_s fX10_codesTell_19 rfl rfl rfl ?_
  refine t_l fX10_codesTell_20 rfl rfl rfl rfl ?_
  refine k9_iadd fX10_codesTell_21 ?_
  obtain ⟨g4, h⟩ := gd_some h
  refine k9_ia fX10_codesTell_22 (s10_44s hr0) g4.1 g4.2.1 g4.2.2 ?_
  obtain ⟨g6, h⟩ := gd_some h
  obtain ⟨g7, h⟩ := gd_some h
  refine k9_ic_ge fX10_codesTell_23 rfl g6 g7 (fun c5 => ?_) (fun c5 => ?_)
  · replace h := ite_t (c5) h
    cases h
    exact h1 rfl _
  · replace h := ite_f (c5) h
    refine t_l fX10_codesTell_26 rfl rfl rfl rfl ?_
    refine k9_gr fX10_codesTell_27 (hr0).1 kg_10_45 (s10_45r hr0) ?_
    refine t_s fX10_codesTell_30 rfl rfl rfl ?_
    refine t_l fX10_codesTell_33 rfl rfl rfl rfl ?_
    refine k9_iadd fX10_codesTell_34 ?_
    obtain ⟨g8, h⟩ := gd_some h
    refine k9_ia fX10_codesTell_35 (s10_45s hr0) g8.1 g8.2.1 g8.2.2 ?_
    replace h := lt_some h
    refine t_l fX10_codesTell_36 rfl rfl rfl rfl ?_
    refine t_l fX10_codesTell_37 rfl rfl rfl rfl ?_
    refine t_s fX10_codesTell_38 rfl rfl rfl ?_
    obtain ⟨g11, h⟩ := gd_some h
    refine k9_ic_lt fX10_codesTell_41 rfl g11 ⟨by decide, by decide⟩ (fun c10 => ?_) (fun c10 => ?_)
    · replace h := ite_t (c10) h
      refine t_l fX10_codesTell_57 rfl rfl rfl rfl ?_
      refine t_s fX10_codesTell_58 rfl rfl rfl ?_
      refine k9_ic_lt fX10_codesTell_60 rfl g11 ⟨by decide, by decide⟩ (fun c12 => ?_) (fun c12 => ?_)
      · replace h := ite_t (c12) h
        refine t_l fX10_codesTell_79 rfl rfl rfl rfl ?_
        refine t_s fX10_codesTell_80 rfl rfl rfl ?_
        refine k9_ic_ne fX10_codesTell_82 rfl g11 ⟨by decide, by decide⟩ (fun c13 => ?_) (fun c13 => ?_)
        · replace h := ite_f (c13) h
          refine t_l fX10_codesTell_93 rfl rfl rfl rfl ?_
          refine t_s fX10_codesTell_94 rfl rfl rfl ?_
          refine k9_ic_ne fX10_codesTell_96 rfl g11 ⟨by decide, by decide⟩ (fun c14 => ?_) (fun c14 => ?_)
          · replace h := ite_f (c14) h
            refine t_l fX10_codesTell_126 rfl rfl rfl rfl ?_
            refine t_l fX10_codesTell_127 rfl rfl rfl rfl ?_
            obtain ⟨V15, v16, e17, h⟩ := bd_some h
            refine kcX10_qJoins fX10_codesTell_128 (hr0).1 rfl (q_X10_qJoins (hr0) e17) (by decide) ?_
            replace h := lt_some h
            refine k9_iinc fX10_codesTell_131 rfl (Nat.le_of_ble_eq_true rfl) rfl ?_
            refine k9_goto fX10_codesTell_134 rfl ?_
            cases h
            exact h0 rfl _
          · replace h := ite_t (Classical.not_not.mp c14) h
            refine t_l fX10_codesTell_99 rfl rfl rfl rfl ?_
            refine k9_gr fX10_codesTell_100 (hr0).1 kg_10_103 (s10_103r hr0) ?_
            refine t_l fX10_codesTell_103 rfl rfl rfl rfl ?_
            refine k9_gi fX10_codesTell_104 (hr0).1 kg_10_104 ?_
            refine t_s fX10_codesTell_107 rfl rfl rfl ?_
            refine k9_isub fX10_codesTell_108 ?_
            refine t_s fX10_codesTell_109 rfl rfl rfl ?_
            refine t_l fX10_codesTell_110 rfl rfl rfl rfl ?_
            refine k9_gr fX10_codesTell_111 (hr0).1 kg_10_103 (s10_103r hr0) ?_
            refine t_l fX10_codesTell_114 rfl rfl rfl rfl ?_
            refine k9_gi fX10_codesTell_115 (hr0).1 kg_10_104 ?_
            refine t_s fX10_codesTell_118 rfl rfl rfl ?_
            refine k9_isub fX10_codesTell_119 ?_
            obtain ⟨g19, h⟩ := gd_some h
            refine k9_la fX10_codesTell_120 (s10_103s hr0) g19.1 g19.2.1 g19.2.2 ?_
            refine k9_lsub fX10_codesTell_121 ?_
            refine k9_ls fX10_codesTell_122 (s10_103s hr0) g19.1 g19.2.1 g19.2.2 ?_
            replace h := lt_some h
            refine k9_goto fX10_codesTell_123 rfl ?_
            replace h := lt_some h
            refine k9_iinc fX10_codesTell_131 rfl (Nat.le_of_ble_eq_true rfl) rfl ?_
            refine k9_goto fX10_codesTell_134 rfl ?_
            cases h
            exact h0 rfl _
        · replace h := ite_t (Classical.not_not.mp c13) h
          refine t_l fX10_codesTell_85 rfl rfl rfl rfl ?_
          refine t_s fX10_codesTell_86 rfl rfl rfl ?_
          obtain ⟨V22, v23, e24, h⟩ := bd_some h
          refine kcX10_qPuts fX10_codesTell_87 (hr0).1 rfl (q_X10_qPuts (hr0) e24) (by decide) ?_
          refine k9_goto fX10_codesTell_90 rfl ?_
          replace h := lt_some h
          refine k9_iinc fX10_codesTell_131 rfl (Nat.le_of_ble_eq_true rfl) rfl ?_
          refine k9_goto fX10_codesTell_134 rfl ?_
          cases h
          exact h0 rfl _
      · replace h := ite_f (c12) h
        refine t_l fX10_codesTell_63 rfl rfl rfl rfl ?_
        refine t_l fX10_codesTell_64 rfl rfl rfl rfl ?_
        refine t_l fX10_codesTell_65 rfl rfl rfl rfl ?_
        refine t_s fX10_codesTell_66 rfl rfl rfl ?_
        refine k9_isub fX10_codesTell_68 ?_
        refine t_s fX10_codesTell_69 rfl rfl rfl ?_
        obtain ⟨V26, v27, e28, h⟩ := bd_some h
        refine kcX10_qPartOf fX10_codesTell_70 (hr0).1 rfl (q_X10_qPartOf (hr0) e28) (by decide) ?_
        obtain ⟨V29, v30, e31, h⟩ := bd_some h
        refine kcX10_qPuts fX10_codesTell_73 (hr0).1 rfl (q_X10_qPuts (hr0) e31) (by decide) ?_
        refine k9_goto fX10_codesTell_76 rfl ?_
        replace h := lt_some h
        refine k9_iinc fX10_codesTell_131 rfl (Nat.le_of_ble_eq_true rfl) rfl ?_
        refine k9_goto fX10_codesTell_134 rfl ?_
        cases h
        exact h0 rfl _
    · replace h := ite_f (c10) h
      refine t_l fX10_codesTell_44 rfl rfl rfl rfl ?_
      refine t_l fX10_codesTell_45 rfl rfl rfl rfl ?_
      refine t_s fX10_codesTell_46 rfl rfl rfl ?_
      refine k9_isub fX10_codesTell_49 ?_
      obtain ⟨g33, h⟩ := gd_some h
      refine k9_i2l fX10_codesTell_50 g33 ?_
      obtain ⟨V34, v35, e36, h⟩ := bd_some h
      refine kcX10_qPuts fX10_codesTell_51 (hr0).1 rfl (q_X10_qPuts (hr0) e36) (by decide) ?_
      refine k9_goto fX10_codesTell_54 rfl ?_
      replace h := lt_some h
      refine k9_iinc fX10_codesTell_131 rfl (Nat.le_of_ble_eq_true rfl) rfl ?_
      refine k9_goto fX10_codesTell_134 rfl ?_
      cases h
      exact h0 rfl _

theorem tl_X10_codesTell_14 {X : mX} {n z : Nat} {G : mG} {r0 : Nat} (hr0 : is10 G r0) {x1 x2 : Int} {j3 : Option Value} {V V' : mV} {fu : Nat} {q : Nat × Int} {Q : Nat → Nat → mG → mV → Option Value → Prop} (k1 : q.1 = 1 → ∀ j3 : Option Value, T X (2) 203 137 [some (.ref r0), some (.int (iI x1)), some (.int (iI q.2)), j3] [] n z G V' Q) (h : lp (fun (s : Int) V => B_X10_codesTell_14 G r0 x1 s V) fu x2 V = some (V', q)) : T X (2) 203 14 [some (.ref r0), some (.int (iI x1)), some (.int (iI x2)), j3] [] n z G V Q :=
  lp_go (P0 := fun s V => ∀ j3 : Option Value, T X (2) 203 14 [some (.ref r0), some (.int (iI x1)), some (.int (iI s)), j3] [] n z G V Q) (PE := fun t s V => (t = 1 → ∀ j3 : Option Value, T X (2) 203 137 [some (.ref r0), some (.int (iI x1)), some (.int (iI s)), j3] [] n z G V Q)) (fun s V V' q hb h0 h1 => fun _ => tb_X10_codesTell_14 hr0  h0 (fun e => (h1 (by omega)) e) hb) fu x2 V V' q h k1 _

theorem q_X10_codesTell {X : mX} {n z : Nat} {G : mG} {r0 : Nat} (hr0 : is10 G r0) {x1 : Int} {V V' : mV} {v : Int} (h : F_X10_codesTell G r0 x1 V = some (V', v)) : Rn X (2) 203 [.ref r0, .int (iI x1)] n z G V n z G V' (some (.long (lI v))) := by
  refine qj_toR (v := v) (L := [some (.ref r0), some (.int (iI x1)), none, none]) rfl ?_
  unfold F_X10_codesTell at h
  refine t_l fX10_codesTell_0 rfl rfl rfl rfl ?_
  refine t_s fX10_codesTell_1 rfl rfl rfl ?_
  refine k9_pi fX10_codesTell_2 (hr0).1 kp_10_104 ?_
  replace h := lt_some h
  refine t_l fX10_codesTell_5 rfl rfl rfl rfl ?_
  refine k9_gr fX10_codesTell_6 (hr0).1 kg_10_43 (s10_43r hr0) ?_
  refine t_s fX10_codesTell_9 rfl rfl rfl ?_
  refine t_l fX10_codesTell_10 rfl rfl rfl rfl ?_
  refine k9_iadd fX10_codesTell_11 ?_
  obtain ⟨g2, h⟩ := gd_some h
  refine k9_ia fX10_codesTell_12 (s10_43s hr0) g2.1 g2.2.1 g2.2.2 ?_
  replace h := lt_some h
  refine t_l fX10_codesTell_13 rfl rfl rfl rfl ?_
  obtain ⟨V38, u39, e40, h⟩ := bd_some h
  refine tl_X10_codesTell_14 hr0  (fun e41 j3 => ?_) e40
  refine t_l fX10_codesTell_137 rfl rfl rfl rfl ?_
  refine k9_gr fX10_codesTell_138 (hr0).1 kg_10_103 (s10_103r hr0) ?_
  refine t_s fX10_codesTell_141 rfl rfl rfl ?_
  refine k9_la fX10_codesTell_142 (s10_103s hr0) (by decide) (by decide) (by decide) ?_
  refine t_ret fX10_codesTell_143 rX10_codesTell ?_
  exact qf_j h

theorem tj_X10_made_J55 {X : mX} {n z : Nat} {G : mG} {r0 : Nat} (hr0 : is10 G r0) {x1 x2 x3 x4 x5 x6 s1 : Int} {j7 j8 : Option Value} {V V' : mV} {v : Int} (h : F_X10_made_J55 G r0 x1 x2 x3 x4 x5 x6 s1 V = some (V', v)) : T X (3) 204 55 [some (.ref r0), some (.int (iI x1)), some (.int (iI x2)), some (.int (iI x3)), some (.int (iI x4)), some (.int (iI x5)), some (.int (iI x6)), j7, j8] [.long (lI s1), .ref r0] n z G V (qi n z G V' v) := by
  unfold F_X10_made_J55 at h
  refine k9_pj fX10_made_55 (hr0).1 kp_10_54 ?_
  replace h := lt_some h
  refine t_l fX10_made_58 rfl rfl rfl rfl ?_
  refine t_l fX10_made_59 rfl rfl rfl rfl ?_
  obtain ⟨V20, v21, e22, h⟩ := bd_some h
  refine kcX10_codesTell fX10_made_60 (hr0).1 rfl (q_X10_codesTell (hr0) e22) (by decide) ?_
  refine t_l fX10_made_63 rfl rfl rfl rfl ?_
  refine t_l fX10_made_65 rfl rfl rfl rfl ?_
  refine t_s fX10_made_67 rfl rfl rfl ?_
  obtain ⟨g23, h⟩ := gd_some h
  refine k9_lcmp fX10_made_68 g23 ⟨by decide, by decide⟩ ?_
  refine k9_if_ge fX10_made_69 rfl (cmp_rg _ _) (fun c24 => ?_) (fun c24 => ?_)
  · replace h := ite_t (cmp_ge.mp c24) h
    refine t_l fX10_made_76 rfl rfl rfl rfl ?_
    refine t_s fX10_made_78 rfl rfl rfl ?_
    refine k9_lcmp fX10_made_81 g23 ⟨by decide, by decide⟩ ?_
    refine k9_if_le fX10_made_82 rfl (cmp_rg _ _) (fun c25 => ?_) (fun c25 => ?_)
    · replace h := ite_t (cmp_le.mp c25) h
      refine t_l fX10_made_90 rfl rfl rfl rfl ?_
      refine k9_l2i fX10_made_92 ?_
      refine t_ret fX10_made_93 rX10_made ?_
      exact qf_i h
    · replace h := ite_f (fun q => c25 (cmp_le.mpr q)) h
      refine t_s fX10_made_85 rfl rfl rfl ?_
      refine k9_goto fX10_made_87 rfl ?_
      refine t_ret fX10_made_93 rX10_made ?_
      exact qf_i h
  · replace h := ite_f (fun q => c24 (cmp_ge.mpr q)) h
    refine t_s fX10_made_72 rfl rfl rfl ?_
    refine k9_goto fX10_made_73 rfl ?_
    refine t_ret fX10_made_93 rX10_made ?_
    exact qf_i h

theorem q_X10_made {X : mX} {n z : Nat} {G : mG} {r0 : Nat} (hr0 : is10 G r0) {x1 x2 x3 x4 x5 x6 : Int} {V V' : mV} {v : Int} (h : F_X10_made G r0 x1 x2 x3 x4 x5 x6 V = some (V', v)) : Rn X (3) 204 [.ref r0, .int (iI x1), .int (iI x2), .int (iI x3), .int (iI x4), .int (iI x5), .int (iI x6)] n z G V n z G V' (some (.int (iI v))) := by
  refine qi_toR (v := v) (L := [some (.ref r0), some (.int (iI x1)), some (.int (iI x2)), some (.int (iI x3)), some (.int (iI x4)), some (.int (iI x5)), some (.int (iI x6)), none, none]) rfl ?_
  unfold F_X10_made at h
  refine t_l fX10_made_0 rfl rfl rfl rfl ?_
  refine k9_gr fX10_made_1 (hr0).1 kg_10_43 (s10_43r hr0) ?_
  refine t_s fX10_made_4 rfl rfl rfl ?_
  refine t_l fX10_made_5 rfl rfl rfl rfl ?_
  refine k9_iadd fX10_made_6 ?_
  obtain ⟨g1, h⟩ := gd_some h
  refine k9_ia fX10_made_7 (s10_43s hr0) g1.1 g1.2.1 g1.2.2 ?_
  refine t_s fX10_made_8 rfl rfl rfl ?_
  obtain ⟨g3, h⟩ := gd_some h
  refine k9_ic_ne fX10_made_9 rfl g3 ⟨by decide, by decide⟩ (fun c2 => ?_) (fun c2 => ?_)
  · replace h := ite_f (c2) h
    refine t_l fX10_made_15 rfl rfl rfl rfl ?_
    refine t_l fX10_made_16 rfl rfl rfl rfl ?_
    obtain ⟨g4, h⟩ := gd_some h
    refine k9_i2l fX10_made_18 g4 ?_
    refine k9_pj fX10_made_19 (hr0).1 kp_10_51 ?_
    replace h := lt_some h
    refine t_l fX10_made_22 rfl rfl rfl rfl ?_
    refine t_l fX10_made_23 rfl rfl rfl rfl ?_
    obtain ⟨g6, h⟩ := gd_some h
    refine k9_i2l fX10_made_25 g6 ?_
    refine k9_pj fX10_made_26 (hr0).1 kp_10_52 ?_
    replace h := lt_some h
    refine t_l fX10_made_29 rfl rfl rfl rfl ?_
    refine t_l fX10_made_30 rfl rfl rfl rfl ?_
    obtain ⟨g8, h⟩ := gd_some h
    refine k9_i2l fX10_made_32 g8 ?_
    refine k9_pj fX10_made_33 (hr0).1 kp_10_53 ?_
    replace h := lt_some h
    refine t_l fX10_made_36 rfl rfl rfl rfl ?_
    refine t_l fX10_made_37 rfl rfl rfl rfl ?_
    refine t_l fX10_made_38 rfl rfl rfl rfl ?_
    obtain ⟨V10, v11, e12, h⟩ := bd_some h
    refine kcX10_wardOf fX10_made_39 (hr0).1 rfl (q_X10_wardOf (hr0) e12) (by decide) ?_
    refine t_l fX10_made_42 rfl rfl rfl rfl ?_
    refine t_l fX10_made_43 rfl rfl rfl rfl ?_
    obtain ⟨V13, v14, e15, h⟩ := bd_some h
    refine kcX10_wardOf fX10_made_44 (hr0).1 rfl (q_X10_wardOf (hr0) e15) (by decide) ?_
    obtain ⟨g17, h⟩ := gd_some h
    obtain ⟨g18, h⟩ := gd_some h
    refine k9_ic_ne fX10_made_47 rfl g17 g18 (fun c16 => ?_) (fun c16 => ?_)
    · replace h := ite_f (c16) h
      refine t_s fX10_made_54 rfl rfl rfl ?_
      exact tj_X10_made_J55 hr0   h
    · replace h := ite_t (Classical.not_not.mp c16) h
      refine t_s fX10_made_50 rfl rfl rfl ?_
      refine k9_goto fX10_made_51 rfl ?_
      exact tj_X10_made_J55 hr0   h
  · replace h := ite_t (Classical.not_not.mp c2) h
    refine t_l fX10_made_12 rfl rfl rfl rfl ?_
    refine t_ret fX10_made_14 rX10_made ?_
    exact qf_i h

theorem tj_X10_canBy_J53 {X : mX} {n z : Nat} {G : mG} {r0 : Nat} (hr0 : is10 G r0) {x1 x2 x3 x4 x5 s1 : Int} {V V' : mV} {v : Int} (h : F_X10_canBy_J53 G r0 x1 x2 x3 x4 x5 s1 V = some (V', v)) : T X (3) 205 53 [some (.ref r0), some (.int (iI x1)), some (.int (iI x2)), some (.int (iI x3)), some (.int (iI x4)), some (.int (iI x5))] [.long (lI s1), .ref r0] n z G V (qi n z G V' v) := by
  unfold F_X10_canBy_J53 at h
  refine k9_pj fX10_canBy_53 (hr0).1 kp_10_56 ?_
  replace h := lt_some h
  refine t_l fX10_canBy_56 rfl rfl rfl rfl ?_
  refine t_s fX10_canBy_57 rfl rfl rfl ?_
  obtain ⟨V17, v18, e19, h⟩ := bd_some h
  refine kcX10_codesTell fX10_canBy_58 (hr0).1 rfl (q_X10_codesTell (hr0) e19) (by decide) ?_
  refine t_s fX10_canBy_61 rfl rfl rfl ?_
  obtain ⟨g20, h⟩ := gd_some h
  refine k9_lcmp fX10_canBy_62 g20 ⟨by decide, by decide⟩ ?_
  refine k9_if_ne fX10_canBy_63 rfl (cmp_rg _ _) (fun c21 => ?_) (fun c21 => ?_)
  · replace h := ite_f (fun q => c21 (cmp_eq.mpr q)) h
    refine t_s fX10_canBy_70 rfl rfl rfl ?_
    refine t_ret fX10_canBy_71 (rX10_canBy _ (by decide)) ?_
    exact qf_i h
  · replace h := ite_t (Classical.byContradiction fun q => c21 (fun w => q (cmp_eq.mp w))) h
    refine t_s fX10_canBy_66 rfl rfl rfl ?_
    refine k9_goto fX10_canBy_67 rfl ?_
    refine t_ret fX10_canBy_71 (rX10_canBy _ (by decide)) ?_
    exact qf_i h

theorem q_X10_canBy {X : mX} {n z : Nat} {G : mG} {r0 : Nat} (hr0 : is10 G r0) {x1 x2 x3 x4 x5 : Int} {V V' : mV} {v : Int} (h : F_X10_canBy G r0 x1 x2 x3 x4 x5 V = some (V', v)) : Rn X (3) 205 [.ref r0, .int (iI x1), .int (iI x2), .int (iI x3), .int (iI x4), .int (iI x5)] n z G V n z G V' (some (.int (iI v))) := by
  refine qi_toR (v := v) (L := [some (.ref r0), some (.int (iI x1)), some (.int (iI x2)), some (.int (iI x3)), some (.int (iI x4)), some (.int (iI x5))]) rfl ?_
  unfold F_X10_canBy at h
  refine t_l fX10_canBy_0 rfl rfl rfl rfl ?_
  refine k9_gr fX10_canBy_1 (hr0).1 kg_10_43 (s10_43r hr0) ?_
  refine t_s fX10_canBy_4 rfl rfl rfl ?_
  refine k9_ia fX10_canBy_6 (s10_43s hr0) (by decide) (by decide) (by decide) ?_
  refine t_s fX10_canBy_7 rfl rfl rfl ?_
  obtain ⟨g2, h⟩ := gd_some h
  refine k9_ic_ne fX10_canBy_8 rfl g2 ⟨by decide, by decide⟩ (fun c1 => ?_) (fun c1 => ?_)
  · replace h := ite_f (c1) h
    refine t_l fX10_canBy_13 rfl rfl rfl rfl ?_
    refine t_l fX10_canBy_14 rfl rfl rfl rfl ?_
    obtain ⟨g3, h⟩ := gd_some h
    refine k9_i2l fX10_canBy_16 g3 ?_
    refine k9_pj fX10_canBy_17 (hr0).1 kp_10_51 ?_
    replace h := lt_some h
    refine t_l fX10_canBy_20 rfl rfl rfl rfl ?_
    refine t_l fX10_canBy_21 rfl rfl rfl rfl ?_
    obtain ⟨g5, h⟩ := gd_some h
    refine k9_i2l fX10_canBy_23 g5 ?_
    refine k9_pj fX10_canBy_24 (hr0).1 kp_10_52 ?_
    replace h := lt_some h
    refine t_l fX10_canBy_27 rfl rfl rfl rfl ?_
    refine t_l fX10_canBy_28 rfl rfl rfl rfl ?_
    obtain ⟨g7, h⟩ := gd_some h
    refine k9_i2l fX10_canBy_29 g7 ?_
    refine k9_pj fX10_canBy_30 (hr0).1 kp_10_53 ?_
    replace h := lt_some h
    refine t_l fX10_canBy_33 rfl rfl rfl rfl ?_
    refine t_l fX10_canBy_34 rfl rfl rfl rfl ?_
    refine t_l fX10_canBy_35 rfl rfl rfl rfl ?_
    obtain ⟨V9, v10, e11, h⟩ := bd_some h
    refine kcX10_hardOf fX10_canBy_36 (hr0).1 rfl (q_X10_hardOf (hr0) e11) (by decide) ?_
    obtain ⟨g12, h⟩ := gd_some h
    refine k9_i2l fX10_canBy_39 g12 ?_
    refine k9_pj fX10_canBy_40 (hr0).1 kp_10_55 ?_
    replace h := lt_some h
    refine t_l fX10_canBy_43 rfl rfl rfl rfl ?_
    refine t_l fX10_canBy_44 rfl rfl rfl rfl ?_
    obtain ⟨g15, h⟩ := gd_some h
    refine k9_if_eq fX10_canBy_45 rfl g15 (fun c14 => ?_) (fun c14 => ?_)
    · replace h := ite_t (c14) h
      refine t_s fX10_canBy_52 rfl rfl rfl ?_
      exact tj_X10_canBy_J53 hr0   h
    · replace h := ite_f (c14) h
      refine t_s fX10_canBy_48 rfl rfl rfl ?_
      refine k9_goto fX10_canBy_49 rfl ?_
      exact tj_X10_canBy_J53 hr0   h
  · replace h := ite_t (Classical.not_not.mp c1) h
    refine t_s fX10_canBy_11 rfl rfl rfl ?_
    refine t_ret fX10_canBy_12 (rX10_canBy _ (by decide)) ?_
    exact qf_i h

theorem tj_X10_canDo_J17 {X : mX} {n z : Nat} {G : mG} {r0 : Nat} (hr0 : is10 G r0) {x1 x2 x3 x4 s1 s2 : Int} {V V' : mV} {v : Int} (h : F_X10_canDo_J17 G r0 x1 x2 x3 x4 s1 s2 V = some (V', v)) : T X (4) 206 17 [some (.ref r0), some (.int (iI x1)), some (.int (iI x2)), some (.int (iI x3)), some (.int (iI x4))] [.int (iI s2), .int (iI s1), .ref r0] n z G V (qi n z G V' v) := by
  unfold F_X10_canDo_J17 at h
  refine t_l fX10_canDo_17 rfl rfl rfl rfl ?_
  refine t_l fX10_canDo_18 rfl rfl rfl rfl ?_
  refine t_l fX10_canDo_20 rfl rfl rfl rfl ?_
  refine k9_gr fX10_canDo_21 (hr0).1 kg_10_49 (s10_49r hr0) ?_
  refine t_s fX10_canDo_24 rfl rfl rfl ?_
  refine k9_ia fX10_canDo_25 (s10_49s hr0) (by decide) (by decide) (by decide) ?_
  refine t_s fX10_canDo_26 rfl rfl rfl ?_
  obtain ⟨g7, h⟩ := gd_some h
  refine k9_idiv fX10_canDo_28 g7 ⟨by decide, by decide⟩ (by decide) ?_
  obtain ⟨V8, v9, e10, h⟩ := bd_some h
  refine kcX10_canBy fX10_canDo_29 (hr0).1 rfl (q_X10_canBy (hr0) e10) (by decide) ?_
  obtain ⟨g11, h⟩ := gd_some h
  refine t_ret fX10_canDo_32 (rX10_canDo _ g11) ?_
  exact qf_i h

theorem q_X10_canDo {X : mX} {n z : Nat} {G : mG} {r0 : Nat} (hr0 : is10 G r0) {x1 x2 x3 x4 : Int} {V V' : mV} {v : Int} (h : F_X10_canDo G r0 x1 x2 x3 x4 V = some (V', v)) : Rn X (4) 206 [.ref r0, .int (iI x1), .int (iI x2), .int (iI x3), .int (iI x4)] n z G V n z G V' (some (.int (iI v))) := by
  refine qi_toR (v := v) (L := [some (.ref r0), some (.int (iI x1)), some (.int (iI x2)), some (.int (iI x3)), some (.int (iI x4))]) rfl ?_
  unfold F_X10_canDo at h
  refine t_l fX10_canDo_0 rfl rfl rfl rfl ?_
  refine t_l fX10_canDo_1 rfl rfl rfl rfl ?_
  refine t_l fX10_canDo_2 rfl rfl rfl rfl ?_
  refine t_l fX10_canDo_3 rfl rfl rfl rfl ?_
  obtain ⟨V1, v2, e3, h⟩ := bd_some h
  refine kcX10_pointsOf fX10_canDo_4 (hr0).1 rfl (q_X10_pointsOf (hr0) e3) (by decide) ?_
  refine t_l fX10_canDo_7 rfl rfl rfl rfl ?_
  refine t_l fX10_canDo_8 rfl rfl rfl rfl ?_
  obtain ⟨g5, h⟩ := gd_some h
  obtain ⟨g6, h⟩ := gd_some h
  refine k9_ic_ne fX10_canDo_9 rfl g5 g6 (fun c4 => ?_) (fun c4 => ?_)
  · replace h := ite_f (c4) h
    refine t_s fX10_canDo_16 rfl rfl rfl ?_
    exact tj_X10_canDo_J17 hr0   h
  · replace h := ite_t (Classical.not_not.mp c4) h
    refine t_s fX10_canDo_12 rfl rfl rfl ?_
    refine k9_goto fX10_canDo_13 rfl ?_
    exact tj_X10_canDo_J17 hr0   h

theorem tj_X10_notices_J57 {X : mX} {n z : Nat} {G : mG} {r0 : Nat} (hr0 : is10 G r0) {x1 x2 x3 x4 x5 s1 : Int} {V V' : mV} {v : Int} (h : F_X10_notices_J57 G r0 x1 x2 x3 x4 x5 s1 V = some (V', v)) : T X (3) 207 57 [some (.ref r0), some (.int (iI x1)), some (.int (iI x2)), some (.int (iI x3)), some (.int (iI x4)), some (.int (iI x5))] [.long (lI s1), .ref r0] n z G V (qi n z G V' v) := by
  unfold F_X10_notices_J57 at h
  refine k9_pj fX10_notices_57 (hr0).1 kp_10_54 ?_
  replace h := lt_some h
  refine t_l fX10_notices_60 rfl rfl rfl rfl ?_
  refine t_l fX10_notices_61 rfl rfl rfl rfl ?_
  refine t_l fX10_notices_62 rfl rfl rfl rfl ?_
  refine t_l fX10_notices_63 rfl rfl rfl rfl ?_
  obtain ⟨V22, v23, e24, h⟩ := bd_some h
  refine kcX10_pointsOf fX10_notices_64 (hr0).1 rfl (q_X10_pointsOf (hr0) e24) (by decide) ?_
  obtain ⟨g25, h⟩ := gd_some h
  refine k9_i2l fX10_notices_67 g25 ?_
  refine k9_pj fX10_notices_68 (hr0).1 kp_10_57 ?_
  replace h := lt_some h
  refine t_l fX10_notices_71 rfl rfl rfl rfl ?_
  refine t_s fX10_notices_72 rfl rfl rfl ?_
  obtain ⟨V27, v28, e29, h⟩ := bd_some h
  refine kcX10_codesTell fX10_notices_73 (hr0).1 rfl (q_X10_codesTell (hr0) e29) (by decide) ?_
  refine t_s fX10_notices_76 rfl rfl rfl ?_
  obtain ⟨g30, h⟩ := gd_some h
  refine k9_lcmp fX10_notices_77 g30 ⟨by decide, by decide⟩ ?_
  refine k9_if_ne fX10_notices_78 rfl (cmp_rg _ _) (fun c31 => ?_) (fun c31 => ?_)
  · replace h := ite_f (fun q => c31 (cmp_eq.mpr q)) h
    refine t_s fX10_notices_85 rfl rfl rfl ?_
    refine t_ret fX10_notices_86 (rX10_notices _ (by decide)) ?_
    exact qf_i h
  · replace h := ite_t (Classical.byContradiction fun q => c31 (fun w => q (cmp_eq.mp w))) h
    refine t_s fX10_notices_81 rfl rfl rfl ?_
    refine k9_goto fX10_notices_82 rfl ?_
    refine t_ret fX10_notices_86 (rX10_notices _ (by decide)) ?_
    exact qf_i h

theorem q_X10_notices {X : mX} {n z : Nat} {G : mG} {r0 : Nat} (hr0 : is10 G r0) {x1 x2 x3 x4 x5 : Int} {V V' : mV} {v : Int} (h : F_X10_notices G r0 x1 x2 x3 x4 x5 V = some (V', v)) : Rn X (3) 207 [.ref r0, .int (iI x1), .int (iI x2), .int (iI x3), .int (iI x4), .int (iI x5)] n z G V n z G V' (some (.int (iI v))) := by
  refine qi_toR (v := v) (L := [some (.ref r0), some (.int (iI x1)), some (.int (iI x2)), some (.int (iI x3)), some (.int (iI x4)), some (.int (iI x5))]) rfl ?_
  unfold F_X10_notices at h
  refine t_l fX10_notices_0 rfl rfl rfl rfl ?_
  refine k9_gr fX10_notices_1 (hr0).1 kg_10_43 (s10_43r hr0) ?_
  refine t_s fX10_notices_4 rfl rfl rfl ?_
  refine k9_ia fX10_notices_6 (s10_43s hr0) (by decide) (by decide) (by decide) ?_
  refine t_s fX10_notices_7 rfl rfl rfl ?_
  obtain ⟨g2, h⟩ := gd_some h
  refine k9_ic_ne fX10_notices_8 rfl g2 ⟨by decide, by decide⟩ (fun c1 => ?_) (fun c1 => ?_)
  · replace h := ite_f (c1) h
    refine t_l fX10_notices_13 rfl rfl rfl rfl ?_
    refine t_l fX10_notices_14 rfl rfl rfl rfl ?_
    obtain ⟨g3, h⟩ := gd_some h
    refine k9_i2l fX10_notices_16 g3 ?_
    refine k9_pj fX10_notices_17 (hr0).1 kp_10_51 ?_
    replace h := lt_some h
    refine t_l fX10_notices_20 rfl rfl rfl rfl ?_
    refine t_l fX10_notices_21 rfl rfl rfl rfl ?_
    obtain ⟨g5, h⟩ := gd_some h
    refine k9_i2l fX10_notices_23 g5 ?_
    refine k9_pj fX10_notices_24 (hr0).1 kp_10_52 ?_
    replace h := lt_some h
    refine t_l fX10_notices_27 rfl rfl rfl rfl ?_
    refine t_l fX10_notices_28 rfl rfl rfl rfl ?_
    refine t_l fX10_notices_29 rfl rfl rfl rfl ?_
    refine t_l fX10_notices_30 rfl rfl rfl rfl ?_
    obtain ⟨V7, v8, e9, h⟩ := bd_some h
    refine kcX10_pointsOf fX10_notices_31 (hr0).1 rfl (q_X10_pointsOf (hr0) e9) (by decide) ?_
    obtain ⟨g10, h⟩ := gd_some h
    refine k9_i2l fX10_notices_34 g10 ?_
    refine k9_pj fX10_notices_35 (hr0).1 kp_10_53 ?_
    replace h := lt_some h
    refine t_l fX10_notices_38 rfl rfl rfl rfl ?_
    refine t_l fX10_notices_39 rfl rfl rfl rfl ?_
    refine t_l fX10_notices_40 rfl rfl rfl rfl ?_
    obtain ⟨V12, v13, e14, h⟩ := bd_some h
    refine kcX10_wardOf fX10_notices_41 (hr0).1 rfl (q_X10_wardOf (hr0) e14) (by decide) ?_
    refine t_l fX10_notices_44 rfl rfl rfl rfl ?_
    refine t_l fX10_notices_45 rfl rfl rfl rfl ?_
    obtain ⟨V15, v16, e17, h⟩ := bd_some h
    refine kcX10_wardOf fX10_notices_46 (hr0).1 rfl (q_X10_wardOf (hr0) e17) (by decide) ?_
    obtain ⟨g19, h⟩ := gd_some h
    obtain ⟨g20, h⟩ := gd_some h
    refine k9_ic_ne fX10_notices_49 rfl g19 g20 (fun c18 => ?_) (fun c18 => ?_)
    · replace h := ite_f (c18) h
      refine t_s fX10_notices_56 rfl rfl rfl ?_
      exact tj_X10_notices_J57 hr0   h
    · replace h := ite_t (Classical.not_not.mp c18) h
      refine t_s fX10_notices_52 rfl rfl rfl ?_
      refine k9_goto fX10_notices_53 rfl ?_
      exact tj_X10_notices_J57 hr0   h
  · replace h := ite_t (Classical.not_not.mp c1) h
    refine t_s fX10_notices_11 rfl rfl rfl ?_
    refine t_ret fX10_notices_12 (rX10_notices _ (by decide)) ?_
    exact qf_i h

theorem tb_X10_clearsDried_2 {X : mX} {n z : Nat} {G : mG} {r0 : Nat} (hr0 : is10 G r0) {x1 : Int} {V V' : mV} {q : Nat × Int} {Q : Nat → Nat → mG → mV → Option Value → Prop} (h0 : q.1 = 0 → T X (0) 208 2 [some (.ref r0), some (.int (iI q.2))] [] n z G V' Q) (h1 : q.1 = 1 → T X (0) 208 20 [some (.ref r0), some (.int (iI q.2))] [] n z G V' Q) (h : B_X10_clearsDried_2 G r0 x1 V = some (V', q)) : T X (0) 208 2 [some (.ref r0), some (.int (iI x1))] [] n z G V Q := by
  unfold B_X10_clearsDried_2 at h
  refine t_l fX10_clearsDried_2 rfl rfl rfl rfl ?_
  refine t_s fX10_clearsDried_3 rfl rfl rfl ?_
  obtain ⟨g2, h⟩ := gd_some h
  refine k9_ic_ge fX10_clearsDried_4 rfl g2 ⟨by decide, by decide⟩ (fun c1 => ?_) (fun c1 => ?_)
  · replace h := ite_t (c1) h
    cases h
    exact h1 rfl
  · replace h := ite_f (c1) h
    refine t_l fX10_clearsDried_7 rfl rfl rfl rfl ?_
    refine k9_gr fX10_clearsDried_8 (hr0).1 kg_10_59 (s10_59r hr0) ?_
    refine t_l fX10_clearsDried_11 rfl rfl rfl rfl ?_
    refine t_s fX10_clearsDried_12 rfl rfl rfl ?_
    obtain ⟨g3, h⟩ := gd_some h
    refine k9_is fX10_clearsDried_13 (s10_59s hr0) g3.1 g3.2.1 g3.2.2 ?_
    replace h := lt_some h
    replace h := lt_some h
    refine k9_iinc fX10_clearsDried_14 rfl (Nat.le_of_ble_eq_true rfl) rfl ?_
    refine k9_goto fX10_clearsDried_17 rfl ?_
    cases h
    exact h0 rfl

theorem tl_X10_clearsDried_2 {X : mX} {n z : Nat} {G : mG} {r0 : Nat} (hr0 : is10 G r0) {x1 : Int} {V V' : mV} {fu : Nat} {q : Nat × Int} {Q : Nat → Nat → mG → mV → Option Value → Prop} (k1 : q.1 = 1 → T X (0) 208 20 [some (.ref r0), some (.int (iI q.2))] [] n z G V' Q) (h : lp (fun (s : Int) V => B_X10_clearsDried_2 G r0 s V) fu x1 V = some (V', q)) : T X (0) 208 2 [some (.ref r0), some (.int (iI x1))] [] n z G V Q :=
  lp_go (P0 := fun s V => T X (0) 208 2 [some (.ref r0), some (.int (iI s))] [] n z G V Q) (PE := fun t s V => (t = 1 → T X (0) 208 20 [some (.ref r0), some (.int (iI s))] [] n z G V Q)) (fun s V V' q hb h0 h1 => tb_X10_clearsDried_2 hr0  h0 (fun e => (h1 (by omega)) e) hb) fu x1 V V' q h k1

theorem tb_X10_clearsDried_22 {X : mX} {n z : Nat} {G : mG} {r0 : Nat} (hr0 : is10 G r0) {x1 : Int} {V V' : mV} {q : Nat × Int} {Q : Nat → Nat → mG → mV → Option Value → Prop} (h0 : q.1 = 0 → T X (0) 208 22 [some (.ref r0), some (.int (iI q.2))] [] n z G V' Q) (h1 : q.1 = 1 → T X (0) 208 41 [some (.ref r0), some (.int (iI q.2))] [] n z G V' Q) (h : B_X10_clearsDried_22 G r0 x1 V = some (V', q)) : T X (0) 208 22 [some (.ref r0), some (.int (iI x1))] [] n z G V Q := by
  unfold B_X10_clearsDried_22 at h
  refine t_l fX10_clearsDried_22 rfl rfl rfl rfl ?_
  refine t_s fX10_clearsDried_23 rfl rfl rfl ?_
  obtain ⟨g11, h⟩ := gd_some h
  refine k9_ic_ge fX10_clearsDried_25 rfl g11 ⟨by decide, by decide⟩ (fun c10 => ?_) (fun c10 => ?_)
  · replace h := ite_t (c10) h
    cases h
    exact h1 rfl
  · replace h := ite_f (c10) h
    refine t_l fX10_clearsDried_28 rfl rfl rfl rfl ?_
    refine k9_gr fX10_clearsDried_29 (hr0).1 kg_10_60 (s10_60r hr0) ?_
    refine t_l fX10_clearsDried_32 rfl rfl rfl rfl ?_
    refine t_s fX10_clearsDried_33 rfl rfl rfl ?_
    obtain ⟨g12, h⟩ := gd_some h
    refine k9_is fX10_clearsDried_34 (s10_60s hr0) g12.1 g12.2.1 g12.2.2 ?_
    replace h := lt_some h
    replace h := lt_some h
    refine k9_iinc fX10_clearsDried_35 rfl (Nat.le_of_ble_eq_true rfl) rfl ?_
    refine k9_goto fX10_clearsDried_38 rfl ?_
    cases h
    exact h0 rfl

theorem tl_X10_clearsDried_22 {X : mX} {n z : Nat} {G : mG} {r0 : Nat} (hr0 : is10 G r0) {x1 : Int} {V V' : mV} {fu : Nat} {q : Nat × Int} {Q : Nat → Nat → mG → mV → Option Value → Prop} (k1 : q.1 = 1 → T X (0) 208 41 [some (.ref r0), some (.int (iI q.2))] [] n z G V' Q) (h : lp (fun (s : Int) V => B_X10_clearsDried_22 G r0 s V) fu x1 V = some (V', q)) : T X (0) 208 22 [some (.ref r0), some (.int (iI x1))] [] n z G V Q :=
  lp_go (P0 := fun s V => T X (0) 208 22 [some (.ref r0), some (.int (iI s))] [] n z G V Q) (PE := fun t s V => (t = 1 → T X (0) 208 41 [some (.ref r0), some (.int (iI s))] [] n z G V Q)) (fun s V V' q hb h0 h1 => tb_X10_clearsDried_22 hr0  h0 (fun e => (h1 (by omega)) e) hb) fu x1 V V' q h k1

theorem q_X10_clearsDried {X : mX} {n z : Nat} {G : mG} {r0 : Nat} (hr0 : is10 G r0) {V V' : mV} {v : Int} (h : F_X10_clearsDried G r0 V = some (V', v)) : Rn X (0) 208 [.ref r0] n z G V n z G V' none := by
  refine qv_toR (v := v) (L := [some (.ref r0), none]) rfl ?_
  unfold F_X10_clearsDried at h
  refine t_s fX10_clearsDried_0 rfl rfl rfl ?_
  refine t_l fX10_clearsDried_1 rfl rfl rfl rfl ?_
  obtain ⟨V6, u7, e8, h⟩ := bd_some h
  refine tl_X10_clearsDried_2 hr0  (fun e9 => ?_) e8
  refine t_s fX10_clearsDried_20 rfl rfl rfl ?_
  refine t_l fX10_clearsDried_21 rfl rfl rfl rfl ?_
  obtain ⟨V15, u16, e17, h⟩ := bd_some h
  refine tl_X10_clearsDried_22 hr0  (fun e18 => ?_) e17
  refine t_l fX10_clearsDried_41 rfl rfl rfl rfl ?_
  refine t_s fX10_clearsDried_42 rfl rfl rfl ?_
  refine k9_pi fX10_clearsDried_43 (hr0).1 kp_10_61 ?_
  replace h := lt_some h
  refine t_l fX10_clearsDried_46 rfl rfl rfl rfl ?_
  refine t_s fX10_clearsDried_47 rfl rfl rfl ?_
  refine k9_pi fX10_clearsDried_48 (hr0).1 kp_10_62 ?_
  replace h := lt_some h
  refine t_ret fX10_clearsDried_51 rX10_clearsDried ?_
  exact qf_v h

theorem tj_X10_happens_J108 {X : mX} {n z : Nat} {G : mG} {r0 : Nat} (hr0 : is10 G r0) {x1 x2 x3 : Int} {j4 : Option Value} {V V' : mV} {v : Int} (h : F_X10_happens_J108 G r0 x1 x2 x3 V = some (V', v)) : T X (0) 209 108 [some (.ref r0), some (.int (iI x1)), some (.int (iI x2)), some (.int (iI x3)), j4] [] n z G V (qv n z G V' v) := by
  unfold F_X10_happens_J108 at h
  refine t_s fX10_happens_108 rfl rfl rfl ?_
  refine t_s fX10_happens_110 rfl rfl rfl ?_
  refine t_l fX10_happens_111 rfl rfl rfl rfl ?_
  refine k9_gr fX10_happens_112 (hr0).1 kg_10_49 (s10_49r hr0) ?_
  refine t_s fX10_happens_115 rfl rfl rfl ?_
  refine k9_ia fX10_happens_117 (s10_49s hr0) (by decide) (by decide) (by decide) ?_
  refine k9_imul fX10_happens_118 ?_
  refine k9_iadd fX10_happens_119 ?_
  refine t_s fX10_happens_120 rfl rfl rfl ?_
  refine k9_isub fX10_happens_121 ?_
  replace h := lt_some h
  refine t_l fX10_happens_122 rfl rfl rfl rfl ?_
  refine t_l fX10_happens_124 rfl rfl rfl rfl ?_
  refine k9_gr fX10_happens_125 (hr0).1 kg_10_49 (s10_49r hr0) ?_
  refine t_l fX10_happens_128 rfl rfl rfl rfl ?_
  refine t_l fX10_happens_130 rfl rfl rfl rfl ?_
  refine k9_gr fX10_happens_131 (hr0).1 kg_10_49 (s10_49r hr0) ?_
  refine t_s fX10_happens_134 rfl rfl rfl ?_
  refine k9_ia fX10_happens_135 (s10_49s hr0) (by decide) (by decide) (by decide) ?_
  obtain ⟨g11, h⟩ := gd_some h
  refine k9_is fX10_happens_136 (s10_49s hr0) g11.1 g11.2.1 g11.2.2 ?_
  replace h := lt_some h
  refine t_l fX10_happens_137 rfl rfl rfl rfl ?_
  refine k9_gr fX10_happens_138 (hr0).1 kg_10_49 (s10_49r hr0) ?_
  refine t_l fX10_happens_141 rfl rfl rfl rfl ?_
  refine t_s fX10_happens_143 rfl rfl rfl ?_
  refine k9_iadd fX10_happens_144 ?_
  refine t_l fX10_happens_145 rfl rfl rfl rfl ?_
  obtain ⟨g13, h⟩ := gd_some h
  refine k9_is fX10_happens_146 (s10_49s hr0) g13.1 g13.2.1 g13.2.2 ?_
  replace h := lt_some h
  refine t_l fX10_happens_147 rfl rfl rfl rfl ?_
  refine k9_gr fX10_happens_148 (hr0).1 kg_10_49 (s10_49r hr0) ?_
  refine t_l fX10_happens_151 rfl rfl rfl rfl ?_
  refine t_s fX10_happens_153 rfl rfl rfl ?_
  refine k9_iadd fX10_happens_154 ?_
  refine t_l fX10_happens_155 rfl rfl rfl rfl ?_
  obtain ⟨g15, h⟩ := gd_some h
  refine k9_is fX10_happens_156 (s10_49s hr0) g15.1 g15.2.1 g15.2.2 ?_
  replace h := lt_some h
  refine t_l fX10_happens_157 rfl rfl rfl rfl ?_
  refine k9_gr fX10_happens_158 (hr0).1 kg_10_49 (s10_49r hr0) ?_
  refine t_l fX10_happens_161 rfl rfl rfl rfl ?_
  refine t_s fX10_happens_163 rfl rfl rfl ?_
  refine k9_iadd fX10_happens_164 ?_
  refine t_l fX10_happens_165 rfl rfl rfl rfl ?_
  obtain ⟨g17, h⟩ := gd_some h
  refine k9_is fX10_happens_166 (s10_49s hr0) g17.1 g17.2.1 g17.2.2 ?_
  replace h := lt_some h
  refine t_ret fX10_happens_167 rX10_happens ?_
  exact qf_v h

theorem tb_X10_happens_64 {X : mX} {n z : Nat} {G : mG} {r0 : Nat} (hr0 : is10 G r0) {x1 x2 x3 x4 : Int} {V V' : mV} {q : Nat × Int} {Q : Nat → Nat → mG → mV → Option Value → Prop} (h0 : q.1 = 0 → T X (0) 209 64 [some (.ref r0), some (.int (iI x1)), some (.int (iI x2)), some (.int (iI x3)), some (.int (iI q.2))] [] n z G V' Q) (h1 : q.1 = 1 → T X (0) 209 94 [some (.ref r0), some (.int (iI x1)), some (.int (iI x2)), some (.int (iI x3)), some (.int (iI q.2))] [] n z G V' Q) (h : B_X10_happens_64 G r0 x1 x2 x3 x4 V = some (V', q)) : T X (0) 209 64 [some (.ref r0), some (.int (iI x1)), some (.int (iI x2)), some (.int (iI x3)), some (.int (iI x4))] [] n z G V Q := by
  unfold B_X10_happens_64 at h
  refine t_l fX10_happens_64 rfl rfl rfl rfl ?_
  refine t_s fX10_happens_66 rfl rfl rfl ?_
  obtain ⟨g20, h⟩ := gd_some h
  refine k9_ic_ge fX10_happens_69 rfl g20 ⟨by decide, by decide⟩ (fun c19 => ?_) (fun c19 => ?_)
  · replace h := ite_t (c19) h
    cases h
    exact h1 rfl
  · replace h := ite_f (c19) h
    refine t_l fX10_happens_72 rfl rfl rfl rfl ?_
    refine k9_gr fX10_happens_73 (hr0).1 kg_10_49 (s10_49r hr0) ?_
    refine t_l fX10_happens_76 rfl rfl rfl rfl ?_
    refine t_l fX10_happens_78 rfl rfl rfl rfl ?_
    refine k9_gr fX10_happens_79 (hr0).1 kg_10_49 (s10_49r hr0) ?_
    refine t_l fX10_happens_82 rfl rfl rfl rfl ?_
    refine t_s fX10_happens_84 rfl rfl rfl ?_
    refine k9_iadd fX10_happens_85 ?_
    obtain ⟨g21, h⟩ := gd_some h
    refine k9_ia fX10_happens_86 (s10_49s hr0) g21.1 g21.2.1 g21.2.2 ?_
    obtain ⟨g22, h⟩ := gd_some h
    refine k9_is fX10_happens_87 (s10_49s hr0) g22.1 g22.2.1 g22.2.2 ?_
    replace h := lt_some h
    replace h := lt_some h
    refine k9_iinc fX10_happens_88 rfl (Nat.le_of_ble_eq_true rfl) rfl ?_
    refine k9_goto fX10_happens_91 rfl ?_
    cases h
    exact h0 rfl

theorem tl_X10_happens_64 {X : mX} {n z : Nat} {G : mG} {r0 : Nat} (hr0 : is10 G r0) {x1 x2 x3 x4 : Int} {V V' : mV} {fu : Nat} {q : Nat × Int} {Q : Nat → Nat → mG → mV → Option Value → Prop} (k1 : q.1 = 1 → T X (0) 209 94 [some (.ref r0), some (.int (iI x1)), some (.int (iI x2)), some (.int (iI x3)), some (.int (iI q.2))] [] n z G V' Q) (h : lp (fun (s : Int) V => B_X10_happens_64 G r0 x1 x2 x3 s V) fu x4 V = some (V', q)) : T X (0) 209 64 [some (.ref r0), some (.int (iI x1)), some (.int (iI x2)), some (.int (iI x3)), some (.int (iI x4))] [] n z G V Q :=
  lp_go (P0 := fun s V => T X (0) 209 64 [some (.ref r0), some (.int (iI x1)), some (.int (iI x2)), some (.int (iI x3)), some (.int (iI s))] [] n z G V Q) (PE := fun t s V => (t = 1 → T X (0) 209 94 [some (.ref r0), some (.int (iI x1)), some (.int (iI x2)), some (.int (iI x3)), some (.int (iI s))] [] n z G V Q)) (fun s V V' q hb h0 h1 => tb_X10_happens_64 hr0  h0 (fun e => (h1 (by omega)) e) hb) fu x4 V V' q h k1

theorem tj_X10_happens_J48 {X : mX} {n z : Nat} {G : mG} {r0 : Nat} (hr0 : is10 G r0) {x1 x2 x3 : Int} {j4 : Option Value} {V V' : mV} {v : Int} (h : F_X10_happens_J48 G r0 x1 x2 x3 V = some (V', v)) : T X (0) 209 48 [some (.ref r0), some (.int (iI x1)), some (.int (iI x2)), some (.int (iI x3)), j4] [] n z G V (qv n z G V' v) := by
  unfold F_X10_happens_J48 at h
  refine t_l fX10_happens_48 rfl rfl rfl rfl ?_
  refine k9_gr fX10_happens_49 (hr0).1 kg_10_49 (s10_49r hr0) ?_
  refine t_s fX10_happens_52 rfl rfl rfl ?_
  refine k9_ia fX10_happens_54 (s10_49s hr0) (by decide) (by decide) (by decide) ?_
  refine t_s fX10_happens_55 rfl rfl rfl ?_
  obtain ⟨g8, h⟩ := gd_some h
  refine k9_ic_ne fX10_happens_57 rfl g8 ⟨by decide, by decide⟩ (fun c7 => ?_) (fun c7 => ?_)
  · replace h := ite_f (c7) h
    refine t_l fX10_happens_97 rfl rfl rfl rfl ?_
    refine k9_gr fX10_happens_98 (hr0).1 kg_10_49 (s10_49r hr0) ?_
    refine t_s fX10_happens_101 rfl rfl rfl ?_
    refine t_s fX10_happens_103 rfl rfl rfl ?_
    refine k9_ia fX10_happens_104 (s10_49s hr0) (by decide) (by decide) (by decide) ?_
    refine t_s fX10_happens_105 rfl rfl rfl ?_
    refine k9_iadd fX10_happens_106 ?_
    refine k9_is fX10_happens_107 (s10_49s hr0) (by decide) (by decide) (by decide) ?_
    replace h := lt_some h
    exact tj_X10_happens_J108 hr0   h
  · replace h := ite_t (Classical.not_not.mp c7) h
    refine t_s fX10_happens_60 rfl rfl rfl ?_
    refine t_l fX10_happens_62 rfl rfl rfl rfl ?_
    obtain ⟨V25, u26, e27, h⟩ := bd_some h
    refine tl_X10_happens_64 hr0  (fun e28 => ?_) e27
    refine k9_goto fX10_happens_94 rfl ?_
    exact tj_X10_happens_J108 hr0   h

theorem tj_X10_happens_J25 {X : mX} {n z : Nat} {G : mG} {r0 : Nat} (hr0 : is10 G r0) {x1 x2 x3 : Int} {j4 : Option Value} {V V' : mV} {v : Int} (h : F_X10_happens_J25 G r0 x1 x2 x3 V = some (V', v)) : T X (0) 209 25 [some (.ref r0), some (.int (iI x1)), some (.int (iI x2)), some (.int (iI x3)), j4] [] n z G V (qv n z G V' v) := by
  unfold F_X10_happens_J25 at h
  refine t_l fX10_happens_25 rfl rfl rfl rfl ?_
  refine t_s fX10_happens_26 rfl rfl rfl ?_
  obtain ⟨g6, h⟩ := gd_some h
  refine k9_ic_ge fX10_happens_27 rfl g6 ⟨by decide, by decide⟩ (fun c5 => ?_) (fun c5 => ?_)
  · replace h := ite_t (c5) h
    exact tj_X10_happens_J48 hr0   h
  · replace h := ite_f (c5) h
    refine t_l fX10_happens_30 rfl rfl rfl rfl ?_
    refine k9_gi fX10_happens_31 (hr0).1 kg_10_61 ?_
    refine t_s fX10_happens_34 rfl rfl rfl ?_
    obtain ⟨g30, h⟩ := gd_some h
    refine k9_ic_ne fX10_happens_35 rfl g30 ⟨by decide, by decide⟩ (fun c29 => ?_) (fun c29 => ?_)
    · replace h := ite_f (c29) h
      exact tj_X10_happens_J48 hr0   h
    · replace h := ite_t (Classical.not_not.mp c29) h
      refine t_l fX10_happens_38 rfl rfl rfl rfl ?_
      refine t_l fX10_happens_39 rfl rfl rfl rfl ?_
      refine k9_pi fX10_happens_40 (hr0).1 kp_10_61 ?_
      replace h := lt_some h
      refine t_l fX10_happens_43 rfl rfl rfl rfl ?_
      refine t_l fX10_happens_44 rfl rfl rfl rfl ?_
      refine k9_pi fX10_happens_45 (hr0).1 kp_10_62 ?_
      replace h := lt_some h
      exact tj_X10_happens_J48 hr0   h

theorem q_X10_happens {X : mX} {n z : Nat} {G : mG} {r0 : Nat} (hr0 : is10 G r0) {x1 x2 x3 : Int} {V V' : mV} {v : Int} (h : F_X10_happens G r0 x1 x2 x3 V = some (V', v)) : Rn X (0) 209 [.ref r0, .int (iI x1), .int (iI x2), .int (iI x3)] n z G V n z G V' none := by
  refine qv_toR (v := v) (L := [some (.ref r0), some (.int (iI x1)), some (.int (iI x2)), some (.int (iI x3)), none]) rfl ?_
  unfold F_X10_happens at h
  refine t_l fX10_happens_0 rfl rfl rfl rfl ?_
  refine k9_gr fX10_happens_1 (hr0).1 kg_10_59 (s10_59r hr0) ?_
  refine t_l fX10_happens_4 rfl rfl rfl rfl ?_
  refine t_s fX10_happens_5 rfl rfl rfl ?_
  obtain ⟨g1, h⟩ := gd_some h
  refine k9_ia fX10_happens_6 (s10_59s hr0) g1.1 g1.2.1 g1.2.2 ?_
  refine t_s fX10_happens_7 rfl rfl rfl ?_
  refine k9_iadd fX10_happens_8 ?_
  refine k9_is fX10_happens_9 (s10_59s hr0) g1.1 g1.2.1 g1.2.2 ?_
  replace h := lt_some h
  refine t_l fX10_happens_10 rfl rfl rfl rfl ?_
  refine t_s fX10_happens_11 rfl rfl rfl ?_
  obtain ⟨g4, h⟩ := gd_some h
  refine k9_ic_ne fX10_happens_12 rfl g4 ⟨by decide, by decide⟩ (fun c3 => ?_) (fun c3 => ?_)
  · replace h := ite_f (c3) h
    exact tj_X10_happens_J25 hr0   h
  · replace h := ite_t (Classical.not_not.mp c3) h
    refine t_l fX10_happens_15 rfl rfl rfl rfl ?_
    refine k9_gr fX10_happens_16 (hr0).1 kg_10_60 (s10_60r hr0) ?_
    refine t_l fX10_happens_19 rfl rfl rfl rfl ?_
    refine t_s fX10_happens_20 rfl rfl rfl ?_
    obtain ⟨g33, h⟩ := gd_some h
    refine k9_ia fX10_happens_21 (s10_60s hr0) g33.1 g33.2.1 g33.2.2 ?_
    refine t_s fX10_happens_22 rfl rfl rfl ?_
    refine k9_iadd fX10_happens_23 ?_
    refine k9_is fX10_happens_24 (s10_60s hr0) g33.1 g33.2.1 g33.2.2 ?_
    replace h := lt_some h
    exact tj_X10_happens_J25 hr0   h

theorem tb_X10_nightComes_2 {X : mX} {n z : Nat} {G : mG} {r0 : Nat} (hr0 : is10 G r0) {x1 : Int} {j2 : Option Value} {V V' : mV} {q : Nat × Int} {Q : Nat → Nat → mG → mV → Option Value → Prop} (h0 : q.1 = 0 → ∀ j2 : Option Value, T X (4) 210 2 [some (.ref r0), some (.int (iI q.2)), j2] [] n z G V' Q) (h1 : q.1 = 1 → ∀ j2 : Option Value, T X (4) 210 22 [some (.ref r0), some (.int (iI q.2)), j2] [] n z G V' Q) (h : B_X10_nightComes_2 G r0 x1 V = some (V', q)) : T X (4) 210 2 [some (.ref r0), some (.int (iI x1)), j2] [] n z G V Q := by
  unfold B_X10_nightComes_2 at h
  refine t_l fX10_nightComes_2 rfl rfl rfl rfl ?_
  refine t_l fX10_nightComes_3 rfl rfl rfl rfl ?_
  obtain ⟨V1, v2, e3, h⟩ := bd_some h
  refine kcX10_peopleMany fX10_nightComes_4 (hr0).1 rfl (q_X10_peopleMany (hr0) e3) (by decide) ?_
  obtain ⟨g5, h⟩ := gd_some h
  obtain ⟨g6, h⟩ := gd_some h
  refine k9_ic_ge fX10_nightComes_7 rfl g5 g6 (fun c4 => ?_) (fun c4 => ?_)
  · replace h := ite_t (c4) h
    cases h
    exact h1 rfl _
  · replace h := ite_f (c4) h
    refine t_l fX10_nightComes_10 rfl rfl rfl rfl ?_
    refine t_l fX10_nightComes_11 rfl rfl rfl rfl ?_
    refine t_l fX10_nightComes_12 rfl rfl rfl rfl ?_
    obtain ⟨V7, v8, e9, h⟩ := bd_some h
    refine kcX10_liveNow fX10_nightComes_13 (hr0).1 rfl (q_X10_liveNow (hr0) e9) (by decide) ?_
    replace h := lt_some h
    refine k9_iinc fX10_nightComes_16 rfl (Nat.le_of_ble_eq_true rfl) rfl ?_
    refine k9_goto fX10_nightComes_19 rfl ?_
    cases h
    exact h0 rfl _

theorem tl_X10_nightComes_2 {X : mX} {n z : Nat} {G : mG} {r0 : Nat} (hr0 : is10 G r0) {x1 : Int} {j2 : Option Value} {V V' : mV} {fu : Nat} {q : Nat × Int} {Q : Nat → Nat → mG → mV → Option Value → Prop} (k1 : q.1 = 1 → ∀ j2 : Option Value, T X (4) 210 22 [some (.ref r0), some (.int (iI q.2)), j2] [] n z G V' Q) (h : lp (fun (s : Int) V => B_X10_nightComes_2 G r0 s V) fu x1 V = some (V', q)) : T X (4) 210 2 [some (.ref r0), some (.int (iI x1)), j2] [] n z G V Q :=
  lp_go (P0 := fun s V => ∀ j2 : Option Value, T X (4) 210 2 [some (.ref r0), some (.int (iI s)), j2] [] n z G V Q) (PE := fun t s V => (t = 1 → ∀ j2 : Option Value, T X (4) 210 22 [some (.ref r0), some (.int (iI s)), j2] [] n z G V Q)) (fun s V V' q hb h0 h1 => fun _ => tb_X10_nightComes_2 hr0  h0 (fun e => (h1 (by omega)) e) hb) fu x1 V V' q h k1 _

theorem tb_X10_nightComes_34 {X : mX} {n z : Nat} {G : mG} {r0 : Nat} (hr0 : is10 G r0) {x1 x2 : Int} {V V' : mV} {q : Nat × Int} {Q : Nat → Nat → mG → mV → Option Value → Prop} (h0 : q.1 = 0 → T X (4) 210 34 [some (.ref r0), some (.int (iI x1)), some (.int (iI q.2))] [] n z G V' Q) (h1 : q.1 = 1 → T X (4) 210 82 [some (.ref r0), some (.int (iI x1)), some (.int (iI q.2))] [] n z G V' Q) (h : B_X10_nightComes_34 G r0 x1 x2 V = some (V', q)) : T X (4) 210 34 [some (.ref r0), some (.int (iI x1)), some (.int (iI x2))] [] n z G V Q := by
  unfold B_X10_nightComes_34 at h
  refine t_l fX10_nightComes_34 rfl rfl rfl rfl ?_
  refine t_l fX10_nightComes_35 rfl rfl rfl rfl ?_
  obtain ⟨V21, v22, e23, h⟩ := bd_some h
  refine kcX10_peopleMany fX10_nightComes_36 (hr0).1 rfl (q_X10_peopleMany (hr0) e23) (by decide) ?_
  obtain ⟨g25, h⟩ := gd_some h
  obtain ⟨g26, h⟩ := gd_some h
  refine k9_ic_ge fX10_nightComes_39 rfl g25 g26 (fun c24 => ?_) (fun c24 => ?_)
  · replace h := ite_t (c24) h
    cases h
    exact h1 rfl
  · replace h := ite_f (c24) h
    refine t_l fX10_nightComes_42 rfl rfl rfl rfl ?_
    refine t_l fX10_nightComes_43 rfl rfl rfl rfl ?_
    obtain ⟨g28, h⟩ := gd_some h
    refine k9_ic_eq fX10_nightComes_44 rfl g25 g28 (fun c27 => ?_) (fun c27 => ?_)
    · replace h := ite_t (c27) h
      replace h := lt_some h
      refine k9_iinc fX10_nightComes_76 rfl (Nat.le_of_ble_eq_true rfl) rfl ?_
      refine k9_goto fX10_nightComes_79 rfl ?_
      cases h
      exact h0 rfl
    · replace h := ite_f (c27) h
      refine t_l fX10_nightComes_47 rfl rfl rfl rfl ?_
      refine t_l fX10_nightComes_48 rfl rfl rfl rfl ?_
      refine t_l fX10_nightComes_49 rfl rfl rfl rfl ?_
      refine t_l fX10_nightComes_50 rfl rfl rfl rfl ?_
      refine t_s fX10_nightComes_51 rfl rfl rfl ?_
      refine t_l fX10_nightComes_52 rfl rfl rfl rfl ?_
      refine t_l fX10_nightComes_53 rfl rfl rfl rfl ?_
      refine t_l fX10_nightComes_54 rfl rfl rfl rfl ?_
      refine t_l fX10_nightComes_55 rfl rfl rfl rfl ?_
      refine t_l fX10_nightComes_56 rfl rfl rfl rfl ?_
      obtain ⟨V30, v31, e32, h⟩ := bd_some h
      refine kcX10_pointsOf fX10_nightComes_57 (hr0).1 rfl (q_X10_pointsOf (hr0) e32) (by decide) ?_
      refine t_s fX10_nightComes_60 rfl rfl rfl ?_
      refine t_l fX10_nightComes_61 rfl rfl rfl rfl ?_
      refine k9_gr fX10_nightComes_62 (hr0).1 kg_10_49 (s10_49r hr0) ?_
      refine t_s fX10_nightComes_65 rfl rfl rfl ?_
      refine k9_ia fX10_nightComes_66 (s10_49s hr0) (by decide) (by decide) (by decide) ?_
      refine t_s fX10_nightComes_67 rfl rfl rfl ?_
      obtain ⟨g33, h⟩ := gd_some h
      refine k9_idiv fX10_nightComes_69 g33 ⟨by decide, by decide⟩ (by decide) ?_
      obtain ⟨V34, v35, e36, h⟩ := bd_some h
      refine kcX10_made fX10_nightComes_70 (hr0).1 rfl (q_X10_made (hr0) e36) (by decide) ?_
      obtain ⟨V37, v38, e39, h⟩ := bd_some h
      refine kcX10_knowsNow fX10_nightComes_73 (hr0).1 rfl (q_X10_knowsNow (hr0) e39) (by decide) ?_
      replace h := lt_some h
      refine k9_iinc fX10_nightComes_76 rfl (Nat.le_of_ble_eq_true rfl) rfl ?_
      refine k9_goto fX10_nightComes_79 rfl ?_
      cases h
      exact h0 rfl

theorem tl_X10_nightComes_34 {X : mX} {n z : Nat} {G : mG} {r0 : Nat} (hr0 : is10 G r0) {x1 x2 : Int} {V V' : mV} {fu : Nat} {q : Nat × Int} {Q : Nat → Nat → mG → mV → Option Value → Prop} (k1 : q.1 = 1 → T X (4) 210 82 [some (.ref r0), some (.int (iI x1)), some (.int (iI q.2))] [] n z G V' Q) (h : lp (fun (s : Int) V => B_X10_nightComes_34 G r0 x1 s V) fu x2 V = some (V', q)) : T X (4) 210 34 [some (.ref r0), some (.int (iI x1)), some (.int (iI x2))] [] n z G V Q :=
  lp_go (P0 := fun s V => T X (4) 210 34 [some (.ref r0), some (.int (iI x1)), some (.int (iI s))] [] n z G V Q) (PE := fun t s V => (t = 1 → T X (4) 210 82 [some (.ref r0), some (.int (iI x1)), some (.int (iI s))] [] n z G V Q)) (fun s V V' q hb h0 h1 => tb_X10_nightComes_34 hr0  h0 (fun e => (h1 (by omega)) e) hb) fu x2 V V' q h k1

theorem tb_X10_nightComes_24 {X : mX} {n z : Nat} {G : mG} {r0 : Nat} (hr0 : is10 G r0) {x1 : Int} {j2 : Option Value} {V V' : mV} {q : Nat × Int} {Q : Nat → Nat → mG → mV → Option Value → Prop} (h0 : q.1 = 0 → ∀ j2 : Option Value, T X (4) 210 24 [some (.ref r0), some (.int (iI q.2)), j2] [] n z G V' Q) (h1 : q.1 = 1 → ∀ j2 : Option Value, T X (4) 210 88 [some (.ref r0), some (.int (iI q.2)), j2] [] n z G V' Q) (h : B_X10_nightComes_24 G r0 x1 V = some (V', q)) : T X (4) 210 24 [some (.ref r0), some (.int (iI x1)), j2] [] n z G V Q := by
  unfold B_X10_nightComes_24 at h
  refine t_l fX10_nightComes_24 rfl rfl rfl rfl ?_
  refine t_l fX10_nightComes_25 rfl rfl rfl rfl ?_
  obtain ⟨V15, v16, e17, h⟩ := bd_some h
  refine kcX10_peopleMany fX10_nightComes_26 (hr0).1 rfl (q_X10_peopleMany (hr0) e17) (by decide) ?_
  obtain ⟨g19, h⟩ := gd_some h
  obtain ⟨g20, h⟩ := gd_some h
  refine k9_ic_ge fX10_nightComes_29 rfl g19 g20 (fun c18 => ?_) (fun c18 => ?_)
  · replace h := ite_t (c18) h
    cases h
    exact h1 rfl _
  · replace h := ite_f (c18) h
    refine t_s fX10_nightComes_32 rfl rfl rfl ?_
    refine t_l fX10_nightComes_33 rfl rfl rfl rfl ?_
    obtain ⟨V41, u42, e43, h⟩ := bd_some h
    refine tl_X10_nightComes_34 hr0  (fun e44 => ?_) e43
    replace h := lt_some h
    refine k9_iinc fX10_nightComes_82 rfl (Nat.le_of_ble_eq_true rfl) rfl ?_
    refine k9_goto fX10_nightComes_85 rfl ?_
    cases h
    exact h0 rfl _

theorem tl_X10_nightComes_24 {X : mX} {n z : Nat} {G : mG} {r0 : Nat} (hr0 : is10 G r0) {x1 : Int} {j2 : Option Value} {V V' : mV} {fu : Nat} {q : Nat × Int} {Q : Nat → Nat → mG → mV → Option Value → Prop} (k1 : q.1 = 1 → ∀ j2 : Option Value, T X (4) 210 88 [some (.ref r0), some (.int (iI q.2)), j2] [] n z G V' Q) (h : lp (fun (s : Int) V => B_X10_nightComes_24 G r0 s V) fu x1 V = some (V', q)) : T X (4) 210 24 [some (.ref r0), some (.int (iI x1)), j2] [] n z G V Q :=
  lp_go (P0 := fun s V => ∀ j2 : Option Value, T X (4) 210 24 [some (.ref r0), some (.int (iI s)), j2] [] n z G V Q) (PE := fun t s V => (t = 1 → ∀ j2 : Option Value, T X (4) 210 88 [some (.ref r0), some (.int (iI s)), j2] [] n z G V Q)) (fun s V V' q hb h0 h1 => fun _ => tb_X10_nightComes_24 hr0  h0 (fun e => (h1 (by omega)) e) hb) fu x1 V V' q h k1 _

theorem q_X10_nightComes {X : mX} {n z : Nat} {G : mG} {r0 : Nat} (hr0 : is10 G r0) {V V' : mV} {v : Int} (h : F_X10_nightComes G r0 V = some (V', v)) : Rn X (4) 210 [.ref r0] n z G V n z G V' none := by
  refine qv_toR (v := v) (L := [some (.ref r0), none, none]) rfl ?_
  unfold F_X10_nightComes at h
  refine t_s fX10_nightComes_0 rfl rfl rfl ?_
  refine t_l fX10_nightComes_1 rfl rfl rfl rfl ?_
  obtain ⟨V11, u12, e13, h⟩ := bd_some h
  refine tl_X10_nightComes_2 hr0  (fun e14 j2 => ?_) e13
  refine t_s fX10_nightComes_22 rfl rfl rfl ?_
  refine t_l fX10_nightComes_23 rfl rfl rfl rfl ?_
  obtain ⟨V46, u47, e48, h⟩ := bd_some h
  refine tl_X10_nightComes_24 hr0  (fun e49 j2 => ?_) e48
  refine t_ret fX10_nightComes_88 rX10_nightComes ?_
  exact qf_v h

theorem tb_X10_dutyComes_45 {X : mX} {n z : Nat} {G : mG} {r0 : Nat} (hr0 : is10 G r0) {x1 x2 x3 x4 x5 : Int} {V V' : mV} {q : Nat × Int} {Q : Nat → Nat → mG → mV → Option Value → Prop} (h0 : q.1 = 0 → T X (5) 211 45 [some (.ref r0), some (.int (iI x1)), some (.int (iI x2)), some (.int (iI x3)), some (.int (iI x4)), some (.int (iI q.2))] [] n z G V' Q) (h1 : q.1 = 1 → ∀ j4 : Option Value, T X (5) 211 119 [some (.ref r0), some (.int (iI x1)), some (.int (iI x2)), some (.int (iI x3)), j4, some (.int (iI q.2))] [] n z G V' Q) (h : B_X10_dutyComes_45 G r0 x1 x2 x3 x4 x5 V = some (V', q)) : T X (5) 211 45 [some (.ref r0), some (.int (iI x1)), some (.int (iI x2)), some (.int (iI x3)), some (.int (iI x4)), some (.int (iI x5))] [] n z G V Q := by
  unfold B_X10_dutyComes_45 at h
  refine t_l fX10_dutyComes_45 rfl rfl rfl rfl ?_
  refine t_l fX10_dutyComes_47 rfl rfl rfl rfl ?_
  obtain ⟨V11, v12, e13, h⟩ := bd_some h
  refine kcX10_peopleMany fX10_dutyComes_48 (hr0).1 rfl (q_X10_peopleMany (hr0) e13) (by decide) ?_
  obtain ⟨g15, h⟩ := gd_some h
  obtain ⟨g16, h⟩ := gd_some h
  refine k9_ic_ge fX10_dutyComes_51 rfl g15 g16 (fun c14 => ?_) (fun c14 => ?_)
  · replace h := ite_t (c14) h
    cases h
    exact h1 rfl _
  · replace h := ite_f (c14) h
    refine t_l fX10_dutyComes_54 rfl rfl rfl rfl ?_
    refine t_l fX10_dutyComes_56 rfl rfl rfl rfl ?_
    obtain ⟨g18, h⟩ := gd_some h
    obtain ⟨g19, h⟩ := gd_some h
    refine k9_ic_eq fX10_dutyComes_57 rfl g18 g19 (fun c17 => ?_) (fun c17 => ?_)
    · replace h := ite_t (c17) h
      cases h
      exact h1 rfl _
    · replace h := ite_f (c17) h
      refine t_l fX10_dutyComes_60 rfl rfl rfl rfl ?_
      refine t_l fX10_dutyComes_62 rfl rfl rfl rfl ?_
      refine k9_ic_eq fX10_dutyComes_64 rfl g15 g18 (fun c20 => ?_) (fun c20 => ?_)
      · replace h := ite_t (c20) h
        replace h := lt_some h
        refine k9_iinc fX10_dutyComes_113 rfl (Nat.le_of_ble_eq_true rfl) rfl ?_
        refine k9_goto fX10_dutyComes_116 rfl ?_
        cases h
        exact h0 rfl
      · replace h := ite_f (c20) h
        refine t_l fX10_dutyComes_67 rfl rfl rfl rfl ?_
        refine t_l fX10_dutyComes_69 rfl rfl rfl rfl ?_
        refine k9_ic_eq fX10_dutyComes_70 rfl g15 g19 (fun c22 => ?_) (fun c22 => ?_)
        · replace h := ite_t (c22) h
          replace h := lt_some h
          refine k9_iinc fX10_dutyComes_113 rfl (Nat.le_of_ble_eq_true rfl) rfl ?_
          refine k9_goto fX10_dutyComes_116 rfl ?_
          cases h
          exact h0 rfl
        · replace h := ite_f (c22) h
          refine t_l fX10_dutyComes_73 rfl rfl rfl rfl ?_
          refine t_l fX10_dutyComes_74 rfl rfl rfl rfl ?_
          obtain ⟨V24, v25, e26, h⟩ := bd_some h
          refine kcX10_livesNow fX10_dutyComes_76 (hr0).1 rfl (q_X10_livesNow (hr0) e26) (by decide) ?_
          refine t_s fX10_dutyComes_79 rfl rfl rfl ?_
          obtain ⟨g28, h⟩ := gd_some h
          refine k9_ic_eq fX10_dutyComes_80 rfl g28 ⟨by decide, by decide⟩ (fun c27 => ?_) (fun c27 => ?_)
          · replace h := ite_t (c27) h
            replace h := lt_some h
            refine k9_iinc fX10_dutyComes_113 rfl (Nat.le_of_ble_eq_true rfl) rfl ?_
            refine k9_goto fX10_dutyComes_116 rfl ?_
            cases h
            exact h0 rfl
          · replace h := ite_f (c27) h
            refine t_l fX10_dutyComes_83 rfl rfl rfl rfl ?_
            refine t_l fX10_dutyComes_84 rfl rfl rfl rfl ?_
            refine t_l fX10_dutyComes_86 rfl rfl rfl rfl ?_
            refine t_l fX10_dutyComes_88 rfl rfl rfl rfl ?_
            refine t_l fX10_dutyComes_89 rfl rfl rfl rfl ?_
            refine t_l fX10_dutyComes_90 rfl rfl rfl rfl ?_
            refine k9_gr fX10_dutyComes_91 (hr0).1 kg_10_49 (s10_49r hr0) ?_
            refine t_s fX10_dutyComes_94 rfl rfl rfl ?_
            refine k9_ia fX10_dutyComes_95 (s10_49s hr0) (by decide) (by decide) (by decide) ?_
            refine t_s fX10_dutyComes_96 rfl rfl rfl ?_
            obtain ⟨g30, h⟩ := gd_some h
            refine k9_idiv fX10_dutyComes_98 g30 ⟨by decide, by decide⟩ (by decide) ?_
            obtain ⟨V31, v32, e33, h⟩ := bd_some h
            refine kcX10_notices fX10_dutyComes_99 (hr0).1 rfl (q_X10_notices (hr0) e33) (by decide) ?_
            obtain ⟨g35, h⟩ := gd_some h
            refine k9_if_eq fX10_dutyComes_102 rfl g35 (fun c34 => ?_) (fun c34 => ?_)
            · replace h := ite_t (c34) h
              replace h := lt_some h
              refine k9_iinc fX10_dutyComes_113 rfl (Nat.le_of_ble_eq_true rfl) rfl ?_
              refine k9_goto fX10_dutyComes_116 rfl ?_
              cases h
              exact h0 rfl
            · replace h := ite_f (c34) h
              refine t_l fX10_dutyComes_105 rfl rfl rfl rfl ?_
              refine t_s fX10_dutyComes_106 rfl rfl rfl ?_
              refine t_l fX10_dutyComes_107 rfl rfl rfl rfl ?_
              refine t_l fX10_dutyComes_108 rfl rfl rfl rfl ?_
              obtain ⟨V37, v38, e39, h⟩ := bd_some h
              refine kcX10_happens fX10_dutyComes_110 (hr0).1 rfl (q_X10_happens (hr0) e39) (by decide) ?_
              replace h := lt_some h
              refine k9_iinc fX10_dutyComes_113 rfl (Nat.le_of_ble_eq_true rfl) rfl ?_
              refine k9_goto fX10_dutyComes_116 rfl ?_
              cases h
              exact h0 rfl

theorem tl_X10_dutyComes_45 {X : mX} {n z : Nat} {G : mG} {r0 : Nat} (hr0 : is10 G r0) {x1 x2 x3 x4 x5 : Int} {V V' : mV} {fu : Nat} {q : Nat × Int} {Q : Nat → Nat → mG → mV → Option Value → Prop} (k1 : q.1 = 1 → ∀ j4 : Option Value, T X (5) 211 119 [some (.ref r0), some (.int (iI x1)), some (.int (iI x2)), some (.int (iI x3)), j4, some (.int (iI q.2))] [] n z G V' Q) (h : lp (fun (s : Int) V => B_X10_dutyComes_45 G r0 x1 x2 x3 x4 s V) fu x5 V = some (V', q)) : T X (5) 211 45 [some (.ref r0), some (.int (iI x1)), some (.int (iI x2)), some (.int (iI x3)), some (.int (iI x4)), some (.int (iI x5))] [] n z G V Q :=
  lp_go (P0 := fun s V => T X (5) 211 45 [some (.ref r0), some (.int (iI x1)), some (.int (iI x2)), some (.int (iI x3)), some (.int (iI x4)), some (.int (iI s))] [] n z G V Q) (PE := fun t s V => (t = 1 → ∀ j4 : Option Value, T X (5) 211 119 [some (.ref r0), some (.int (iI x1)), some (.int (iI x2)), some (.int (iI x3)), j4, some (.int (iI s))] [] n z G V Q)) (fun s V V' q hb h0 h1 => tb_X10_dutyComes_45 hr0  h0 (fun e => (h1 (by omega)) e) hb) fu x5 V V' q h k1

theorem q_X10_dutyComes {X : mX} {n z : Nat} {G : mG} {r0 : Nat} (hr0 : is10 G r0) {x1 x2 x3 : Int} {V V' : mV} {v : Int} (h : F_X10_dutyComes G r0 x1 x2 x3 V = some (V', v)) : Rn X (5) 211 [.ref r0, .int (iI x1), .int (iI x2), .int (iI x3)] n z G V n z G V' none := by
  refine qv_toR (v := v) (L := [some (.ref r0), some (.int (iI x1)), some (.int (iI x2)), some (.int (iI x3)), none, none]) rfl ?_
  unfold F_X10_dutyComes at h
  refine t_l fX10_dutyComes_0 rfl rfl rfl rfl ?_
  refine t_l fX10_dutyComes_1 rfl rfl rfl rfl ?_
  obtain ⟨V1, v2, e3, h⟩ := bd_some h
  refine kcX10_whoLives fX10_dutyComes_2 (hr0).1 rfl (q_X10_whoLives (hr0) e3) (by decide) ?_
  refine t_l fX10_dutyComes_5 rfl rfl rfl rfl ?_
  refine t_l fX10_dutyComes_7 rfl rfl rfl rfl ?_
  refine t_s fX10_dutyComes_9 rfl rfl rfl ?_
  obtain ⟨g5, h⟩ := gd_some h
  refine k9_ic_ne fX10_dutyComes_10 rfl g5 ⟨by decide, by decide⟩ (fun c4 => ?_) (fun c4 => ?_)
  · replace h := ite_f (c4) h
    refine t_l fX10_dutyComes_21 rfl rfl rfl rfl ?_
    refine t_l fX10_dutyComes_22 rfl rfl rfl rfl ?_
    refine t_l fX10_dutyComes_24 rfl rfl rfl rfl ?_
    refine t_l fX10_dutyComes_25 rfl rfl rfl rfl ?_
    refine t_l fX10_dutyComes_26 rfl rfl rfl rfl ?_
    obtain ⟨V6, v7, e8, h⟩ := bd_some h
    refine kcX10_canDo fX10_dutyComes_27 (hr0).1 rfl (q_X10_canDo (hr0) e8) (by decide) ?_
    obtain ⟨g10, h⟩ := gd_some h
    refine k9_if_ne fX10_dutyComes_30 rfl g10 (fun c9 => ?_) (fun c9 => ?_)
    · replace h := ite_f (c9) h
      refine t_s fX10_dutyComes_42 rfl rfl rfl ?_
      refine t_l fX10_dutyComes_43 rfl rfl rfl rfl ?_
      obtain ⟨V41, u42, e43, h⟩ := bd_some h
      refine tl_X10_dutyComes_45 hr0  (fun e44 j4 => ?_) e43
      refine t_ret fX10_dutyComes_119 rX10_dutyComes ?_
      exact qf_v h
    · replace h := ite_t (Classical.not_not.mp c9) h
      refine t_l fX10_dutyComes_33 rfl rfl rfl rfl ?_
      refine t_s fX10_dutyComes_34 rfl rfl rfl ?_
      refine t_l fX10_dutyComes_35 rfl rfl rfl rfl ?_
      refine t_l fX10_dutyComes_36 rfl rfl rfl rfl ?_
      obtain ⟨V45, v46, e47, h⟩ := bd_some h
      refine kcX10_happens fX10_dutyComes_38 (hr0).1 rfl (q_X10_happens (hr0) e47) (by decide) ?_
      refine t_ret fX10_dutyComes_41 rX10_dutyComes ?_
      exact qf_v h
  · replace h := ite_t (Classical.not_not.mp c4) h
    refine t_l fX10_dutyComes_13 rfl rfl rfl rfl ?_
    refine t_s fX10_dutyComes_14 rfl rfl rfl ?_
    refine t_l fX10_dutyComes_15 rfl rfl rfl rfl ?_
    refine t_s fX10_dutyComes_16 rfl rfl rfl ?_
    obtain ⟨V48, v49, e50, h⟩ := bd_some h
    refine kcX10_happens fX10_dutyComes_17 (hr0).1 rfl (q_X10_happens (hr0) e50) (by decide) ?_
    refine t_ret fX10_dutyComes_20 rX10_dutyComes ?_
    exact qf_v h

theorem tb_X10_hasDuty_2 {X : mX} {n z : Nat} {G : mG} {r0 : Nat} (hr0 : is10 G r0) {x1 x2 x3 : Int} {V V' : mV} {q : Nat × Int} {Q : Nat → Nat → mG → mV → Option Value → Prop} (h0 : q.1 = 0 → T X (1) 212 2 [some (.ref r0), some (.int (iI x1)), some (.int (iI x2)), some (.int (iI q.2))] [] n z G V' Q) (h1 : q.1 = 1 → T X (1) 212 30 [some (.ref r0), some (.int (iI x1)), some (.int (iI x2)), some (.int (iI q.2))] [] n z G V' Q) (h2 : q.1 = 2 → T X (1) 212 38 [some (.ref r0), some (.int (iI x1)), some (.int (iI x2)), some (.int (iI q.2))] [] n z G V' Q) (h : B_X10_hasDuty_2 G r0 x1 x2 x3 V = some (V', q)) : T X (1) 212 2 [some (.ref r0), some (.int (iI x1)), some (.int (iI x2)), some (.int (iI x3))] [] n z G V Q := by
  unfold B_X10_hasDuty_2 at h
  refine t_l fX10_hasDuty_2 rfl rfl rfl rfl ?_
  refine t_l fX10_hasDuty_3 rfl rfl rfl rfl ?_
  obtain ⟨V1, v2, e3, h⟩ := bd_some h
  refine kcX10_dutyMany fX10_hasDuty_4 (hr0).1 rfl (q_X10_dutyMany (hr0) e3) (by decide) ?_
  obtain ⟨g5, h⟩ := gd_some h
  obtain ⟨g6, h⟩ := gd_some h
  refine k9_ic_ge fX10_hasDuty_7 rfl g5 g6 (fun c4 => ?_) (fun c4 => ?_)
  · replace h := ite_t (c4) h
    cases h
    exact h2 rfl
  · replace h := ite_f (c4) h
    refine t_l fX10_hasDuty_10 rfl rfl rfl rfl ?_
    refine t_l fX10_hasDuty_11 rfl rfl rfl rfl ?_
    refine t_s fX10_hasDuty_12 rfl rfl rfl ?_
    obtain ⟨V7, v8, e9, h⟩ := bd_some h
    refine kcX10_dutyOf fX10_hasDuty_13 (hr0).1 rfl (q_X10_dutyOf (hr0) e9) (by decide) ?_
    refine t_l fX10_hasDuty_16 rfl rfl rfl rfl ?_
    obtain ⟨g11, h⟩ := gd_some h
    obtain ⟨g12, h⟩ := gd_some h
    refine k9_ic_ne fX10_hasDuty_17 rfl g11 g12 (fun c10 => ?_) (fun c10 => ?_)
    · replace h := ite_f (c10) h
      replace h := lt_some h
      refine k9_iinc fX10_hasDuty_32 rfl (Nat.le_of_ble_eq_true rfl) rfl ?_
      refine k9_goto fX10_hasDuty_35 rfl ?_
      cases h
      exact h0 rfl
    · replace h := ite_t (Classical.not_not.mp c10) h
      refine t_l fX10_hasDuty_20 rfl rfl rfl rfl ?_
      refine t_l fX10_hasDuty_21 rfl rfl rfl rfl ?_
      refine t_s fX10_hasDuty_22 rfl rfl rfl ?_
      obtain ⟨V14, v15, e16, h⟩ := bd_some h
      refine kcX10_dutyOf fX10_hasDuty_23 (hr0).1 rfl (q_X10_dutyOf (hr0) e16) (by decide) ?_
      refine t_l fX10_hasDuty_26 rfl rfl rfl rfl ?_
      obtain ⟨g18, h⟩ := gd_some h
      obtain ⟨g19, h⟩ := gd_some h
      refine k9_ic_ne fX10_hasDuty_27 rfl g18 g19 (fun c17 => ?_) (fun c17 => ?_)
      · replace h := ite_f (c17) h
        replace h := lt_some h
        refine k9_iinc fX10_hasDuty_32 rfl (Nat.le_of_ble_eq_true rfl) rfl ?_
        refine k9_goto fX10_hasDuty_35 rfl ?_
        cases h
        exact h0 rfl
      · replace h := ite_t (Classical.not_not.mp c17) h
        cases h
        exact h1 rfl

theorem tl_X10_hasDuty_2 {X : mX} {n z : Nat} {G : mG} {r0 : Nat} (hr0 : is10 G r0) {x1 x2 x3 : Int} {V V' : mV} {fu : Nat} {q : Nat × Int} {Q : Nat → Nat → mG → mV → Option Value → Prop} (k1 : q.1 = 1 → T X (1) 212 30 [some (.ref r0), some (.int (iI x1)), some (.int (iI x2)), some (.int (iI q.2))] [] n z G V' Q) (k2 : q.1 = 2 → T X (1) 212 38 [some (.ref r0), some (.int (iI x1)), some (.int (iI x2)), some (.int (iI q.2))] [] n z G V' Q) (h : lp (fun (s : Int) V => B_X10_hasDuty_2 G r0 x1 x2 s V) fu x3 V = some (V', q)) : T X (1) 212 2 [some (.ref r0), some (.int (iI x1)), some (.int (iI x2)), some (.int (iI x3))] [] n z G V Q :=
  lp_go (P0 := fun s V => T X (1) 212 2 [some (.ref r0), some (.int (iI x1)), some (.int (iI x2)), some (.int (iI s))] [] n z G V Q) (PE := fun t s V => (t = 1 → T X (1) 212 30 [some (.ref r0), some (.int (iI x1)), some (.int (iI x2)), some (.int (iI s))] [] n z G V Q) ∧ (t = 2 → T X (1) 212 38 [some (.ref r0), some (.int (iI x1)), some (.int (iI x2)), some (.int (iI s))] [] n z G V Q)) (fun s V V' q hb h0 h1 => tb_X10_hasDuty_2 hr0  h0 (fun e => (h1 (by omega)).1 e) (fun e => (h1 (by omega)).2 e) hb) fu x3 V V' q h ⟨k1, k2⟩

theorem q_X10_hasDuty {X : mX} {n z : Nat} {G : mG} {r0 : Nat} (hr0 : is10 G r0) {x1 x2 : Int} {V V' : mV} {v : Int} (h : F_X10_hasDuty G r0 x1 x2 V = some (V', v)) : Rn X (1) 212 [.ref r0, .int (iI x1), .int (iI x2)] n z G V n z G V' (some (.int (iI v))) := by
  refine qi_toR (v := v) (L := [some (.ref r0), some (.int (iI x1)), some (.int (iI x2)), none]) rfl ?_
  unfold F_X10_hasDuty at h
  refine t_s fX10_hasDuty_0 rfl rfl rfl ?_
  refine t_l fX10_hasDuty_1 rfl rfl rfl rfl ?_
  obtain ⟨V21, u22, e23, h⟩ := bd_some h
  refine tl_X10_hasDuty_2 hr0  (fun e24 => ?_) (fun e24 => ?_) e23
  · replace h := ite_t e24 h
    refine t_s fX10_hasDuty_30 rfl rfl rfl ?_
    refine t_ret fX10_hasDuty_31 (rX10_hasDuty _ (by decide)) ?_
    exact qf_i h
  · replace h := ite_f (by omega) h
    refine t_s fX10_hasDuty_38 rfl rfl rfl ?_
    refine t_ret fX10_hasDuty_39 (rX10_hasDuty _ (by decide)) ?_
    exact qf_i h

theorem tb_X10_hourComes_40 {X : mX} {n z : Nat} {G : mG} {r0 : Nat} (hr0 : is10 G r0) {x1 x2 x3 : Int} {V V' : mV} {q : Nat × Int} {Q : Nat → Nat → mG → mV → Option Value → Prop} (h0 : q.1 = 0 → T X (6) 213 40 [some (.ref r0), some (.int (iI x1)), some (.int (iI x2)), some (.int (iI q.2))] [] n z G V' Q) (h1 : q.1 = 1 → T X (6) 213 86 [some (.ref r0), some (.int (iI x1)), some (.int (iI x2)), some (.int (iI q.2))] [] n z G V' Q) (h : B_X10_hourComes_40 G r0 x1 x2 x3 V = some (V', q)) : T X (6) 213 40 [some (.ref r0), some (.int (iI x1)), some (.int (iI x2)), some (.int (iI x3))] [] n z G V Q := by
  unfold B_X10_hourComes_40 at h
  refine t_l fX10_hourComes_40 rfl rfl rfl rfl ?_
  refine t_l fX10_hourComes_41 rfl rfl rfl rfl ?_
  obtain ⟨V12, v13, e14, h⟩ := bd_some h
  refine kcX10_dutyMany fX10_hourComes_42 (hr0).1 rfl (q_X10_dutyMany (hr0) e14) (by decide) ?_
  obtain ⟨g16, h⟩ := gd_some h
  obtain ⟨g17, h⟩ := gd_some h
  refine k9_ic_ge fX10_hourComes_45 rfl g16 g17 (fun c15 => ?_) (fun c15 => ?_)
  · replace h := ite_t (c15) h
    cases h
    exact h1 rfl
  · replace h := ite_f (c15) h
    refine t_l fX10_hourComes_48 rfl rfl rfl rfl ?_
    refine t_l fX10_hourComes_49 rfl rfl rfl rfl ?_
    refine t_s fX10_hourComes_50 rfl rfl rfl ?_
    obtain ⟨V18, v19, e20, h⟩ := bd_some h
    refine kcX10_dutyOf fX10_hourComes_51 (hr0).1 rfl (q_X10_dutyOf (hr0) e20) (by decide) ?_
    refine t_l fX10_hourComes_54 rfl rfl rfl rfl ?_
    obtain ⟨g22, h⟩ := gd_some h
    obtain ⟨g23, h⟩ := gd_some h
    refine k9_ic_ne fX10_hourComes_55 rfl g22 g23 (fun c21 => ?_) (fun c21 => ?_)
    · replace h := ite_f (c21) h
      replace h := lt_some h
      refine k9_iinc fX10_hourComes_80 rfl (Nat.le_of_ble_eq_true rfl) rfl ?_
      refine k9_goto fX10_hourComes_83 rfl ?_
      cases h
      exact h0 rfl
    · replace h := ite_t (Classical.not_not.mp c21) h
      refine t_l fX10_hourComes_58 rfl rfl rfl rfl ?_
      refine t_l fX10_hourComes_59 rfl rfl rfl rfl ?_
      refine t_s fX10_hourComes_60 rfl rfl rfl ?_
      obtain ⟨V25, v26, e27, h⟩ := bd_some h
      refine kcX10_dutyOf fX10_hourComes_61 (hr0).1 rfl (q_X10_dutyOf (hr0) e27) (by decide) ?_
      refine t_l fX10_hourComes_64 rfl rfl rfl rfl ?_
      obtain ⟨g29, h⟩ := gd_some h
      obtain ⟨g30, h⟩ := gd_some h
      refine k9_ic_ne fX10_hourComes_65 rfl g29 g30 (fun c28 => ?_) (fun c28 => ?_)
      · replace h := ite_f (c28) h
        replace h := lt_some h
        refine k9_iinc fX10_hourComes_80 rfl (Nat.le_of_ble_eq_true rfl) rfl ?_
        refine k9_goto fX10_hourComes_83 rfl ?_
        cases h
        exact h0 rfl
      · replace h := ite_t (Classical.not_not.mp c28) h
        refine t_l fX10_hourComes_68 rfl rfl rfl rfl ?_
        refine t_l fX10_hourComes_69 rfl rfl rfl rfl ?_
        refine t_l fX10_hourComes_70 rfl rfl rfl rfl ?_
        refine t_l fX10_hourComes_71 rfl rfl rfl rfl ?_
        refine t_s fX10_hourComes_72 rfl rfl rfl ?_
        obtain ⟨V32, v33, e34, h⟩ := bd_some h
        refine kcX10_dutyOf fX10_hourComes_73 (hr0).1 rfl (q_X10_dutyOf (hr0) e34) (by decide) ?_
        refine t_l fX10_hourComes_76 rfl rfl rfl rfl ?_
        obtain ⟨V35, v36, e37, h⟩ := bd_some h
        refine kcX10_dutyComes fX10_hourComes_77 (hr0).1 rfl (q_X10_dutyComes (hr0) e37) (by decide) ?_
        replace h := lt_some h
        refine k9_iinc fX10_hourComes_80 rfl (Nat.le_of_ble_eq_true rfl) rfl ?_
        refine k9_goto fX10_hourComes_83 rfl ?_
        cases h
        exact h0 rfl

theorem tl_X10_hourComes_40 {X : mX} {n z : Nat} {G : mG} {r0 : Nat} (hr0 : is10 G r0) {x1 x2 x3 : Int} {V V' : mV} {fu : Nat} {q : Nat × Int} {Q : Nat → Nat → mG → mV → Option Value → Prop} (k1 : q.1 = 1 → T X (6) 213 86 [some (.ref r0), some (.int (iI x1)), some (.int (iI x2)), some (.int (iI q.2))] [] n z G V' Q) (h : lp (fun (s : Int) V => B_X10_hourComes_40 G r0 x1 x2 s V) fu x3 V = some (V', q)) : T X (6) 213 40 [some (.ref r0), some (.int (iI x1)), some (.int (iI x2)), some (.int (iI x3))] [] n z G V Q :=
  lp_go (P0 := fun s V => T X (6) 213 40 [some (.ref r0), some (.int (iI x1)), some (.int (iI x2)), some (.int (iI s))] [] n z G V Q) (PE := fun t s V => (t = 1 → T X (6) 213 86 [some (.ref r0), some (.int (iI x1)), some (.int (iI x2)), some (.int (iI s))] [] n z G V Q)) (fun s V V' q hb h0 h1 => tb_X10_hourComes_40 hr0  h0 (fun e => (h1 (by omega)) e) hb) fu x3 V V' q h k1

theorem tb_X10_hourComes_30 {X : mX} {n z : Nat} {G : mG} {r0 : Nat} (hr0 : is10 G r0) {x1 x2 : Int} {j3 : Option Value} {V V' : mV} {q : Nat × Int} {Q : Nat → Nat → mG → mV → Option Value → Prop} (h0 : q.1 = 0 → ∀ j3 : Option Value, T X (6) 213 30 [some (.ref r0), some (.int (iI x1)), some (.int (iI q.2)), j3] [] n z G V' Q) (h1 : q.1 = 1 → ∀ j3 : Option Value, T X (6) 213 92 [some (.ref r0), some (.int (iI x1)), some (.int (iI q.2)), j3] [] n z G V' Q) (h : B_X10_hourComes_30 G r0 x1 x2 V = some (V', q)) : T X (6) 213 30 [some (.ref r0), some (.int (iI x1)), some (.int (iI x2)), j3] [] n z G V Q := by
  unfold B_X10_hourComes_30 at h
  refine t_l fX10_hourComes_30 rfl rfl rfl rfl ?_
  refine t_l fX10_hourComes_31 rfl rfl rfl rfl ?_
  obtain ⟨V6, v7, e8, h⟩ := bd_some h
  refine kcX10_peopleMany fX10_hourComes_32 (hr0).1 rfl (q_X10_peopleMany (hr0) e8) (by decide) ?_
  obtain ⟨g10, h⟩ := gd_some h
  obtain ⟨g11, h⟩ := gd_some h
  refine k9_ic_ge fX10_hourComes_35 rfl g10 g11 (fun c9 => ?_) (fun c9 => ?_)
  · replace h := ite_t (c9) h
    cases h
    exact h1 rfl _
  · replace h := ite_f (c9) h
    refine t_s fX10_hourComes_38 rfl rfl rfl ?_
    refine t_l fX10_hourComes_39 rfl rfl rfl rfl ?_
    obtain ⟨V39, u40, e41, h⟩ := bd_some h
    refine tl_X10_hourComes_40 hr0  (fun e42 => ?_) e41
    replace h := lt_some h
    refine k9_iinc fX10_hourComes_86 rfl (Nat.le_of_ble_eq_true rfl) rfl ?_
    refine k9_goto fX10_hourComes_89 rfl ?_
    cases h
    exact h0 rfl _

theorem tl_X10_hourComes_30 {X : mX} {n z : Nat} {G : mG} {r0 : Nat} (hr0 : is10 G r0) {x1 x2 : Int} {j3 : Option Value} {V V' : mV} {fu : Nat} {q : Nat × Int} {Q : Nat → Nat → mG → mV → Option Value → Prop} (k1 : q.1 = 1 → ∀ j3 : Option Value, T X (6) 213 92 [some (.ref r0), some (.int (iI x1)), some (.int (iI q.2)), j3] [] n z G V' Q) (h : lp (fun (s : Int) V => B_X10_hourComes_30 G r0 x1 s V) fu x2 V = some (V', q)) : T X (6) 213 30 [some (.ref r0), some (.int (iI x1)), some (.int (iI x2)), j3] [] n z G V Q :=
  lp_go (P0 := fun s V => ∀ j3 : Option Value, T X (6) 213 30 [some (.ref r0), some (.int (iI x1)), some (.int (iI s)), j3] [] n z G V Q) (PE := fun t s V => (t = 1 → ∀ j3 : Option Value, T X (6) 213 92 [some (.ref r0), some (.int (iI x1)), some (.int (iI s)), j3] [] n z G V Q)) (fun s V V' q hb h0 h1 => fun _ => tb_X10_hourComes_30 hr0  h0 (fun e => (h1 (by omega)) e) hb) fu x2 V V' q h k1 _

theorem tb_X10_hourComes_94 {X : mX} {n z : Nat} {G : mG} {r0 : Nat} (hr0 : is10 G r0) {x1 x2 : Int} {j3 : Option Value} {V V' : mV} {q : Nat × Int} {Q : Nat → Nat → mG → mV → Option Value → Prop} (h0 : q.1 = 0 → ∀ j3 : Option Value, T X (6) 213 94 [some (.ref r0), some (.int (iI x1)), some (.int (iI q.2)), j3] [] n z G V' Q) (h1 : q.1 = 1 → ∀ j1 j3 : Option Value, T X (6) 213 180 [some (.ref r0), j1, some (.int (iI q.2)), j3] [] n z G V' Q) (h : B_X10_hourComes_94 G r0 x1 x2 V = some (V', q)) : T X (6) 213 94 [some (.ref r0), some (.int (iI x1)), some (.int (iI x2)), j3] [] n z G V Q := by
  unfold B_X10_hourComes_94 at h
  refine t_l fX10_hourComes_94 rfl rfl rfl rfl ?_
  refine t_l fX10_hourComes_95 rfl rfl rfl rfl ?_
  obtain ⟨V48, v49, e50, h⟩ := bd_some h
  refine kcX10_peopleMany fX10_hourComes_96 (hr0).1 rfl (q_X10_peopleMany (hr0) e50) (by decide) ?_
  obtain ⟨g52, h⟩ := gd_some h
  obtain ⟨g53, h⟩ := gd_some h
  refine k9_ic_ge fX10_hourComes_99 rfl g52 g53 (fun c51 => ?_) (fun c51 => ?_)
  · replace h := ite_t (c51) h
    cases h
    exact h1 rfl _ _
  · replace h := ite_f (c51) h
    refine t_l fX10_hourComes_102 rfl rfl rfl rfl ?_
    refine t_l fX10_hourComes_103 rfl rfl rfl rfl ?_
    obtain ⟨V54, v55, e56, h⟩ := bd_some h
    refine kcX10_watches fX10_hourComes_104 (hr0).1 rfl (q_X10_watches (hr0) e56) (by decide) ?_
    refine t_s fX10_hourComes_107 rfl rfl rfl ?_
    obtain ⟨g58, h⟩ := gd_some h
    refine k9_ic_eq fX10_hourComes_108 rfl g58 ⟨by decide, by decide⟩ (fun c57 => ?_) (fun c57 => ?_)
    · replace h := ite_t (c57) h
      replace h := lt_some h
      refine k9_iinc fX10_hourComes_174 rfl (Nat.le_of_ble_eq_true rfl) rfl ?_
      refine k9_goto fX10_hourComes_177 rfl ?_
      cases h
      exact h0 rfl _
    · replace h := ite_f (c57) h
      refine t_l fX10_hourComes_111 rfl rfl rfl rfl ?_
      refine t_l fX10_hourComes_112 rfl rfl rfl rfl ?_
      obtain ⟨V60, v61, e62, h⟩ := bd_some h
      refine kcX10_livesNow fX10_hourComes_113 (hr0).1 rfl (q_X10_livesNow (hr0) e62) (by decide) ?_
      refine t_s fX10_hourComes_116 rfl rfl rfl ?_
      obtain ⟨g64, h⟩ := gd_some h
      refine k9_ic_eq fX10_hourComes_117 rfl g64 ⟨by decide, by decide⟩ (fun c63 => ?_) (fun c63 => ?_)
      · replace h := ite_t (c63) h
        replace h := lt_some h
        refine k9_iinc fX10_hourComes_174 rfl (Nat.le_of_ble_eq_true rfl) rfl ?_
        refine k9_goto fX10_hourComes_177 rfl ?_
        cases h
        exact h0 rfl _
      · replace h := ite_f (c63) h
        refine t_l fX10_hourComes_120 rfl rfl rfl rfl ?_
        refine t_l fX10_hourComes_121 rfl rfl rfl rfl ?_
        refine t_l fX10_hourComes_122 rfl rfl rfl rfl ?_
        obtain ⟨V66, v67, e68, h⟩ := bd_some h
        refine kcX10_livesNow fX10_hourComes_123 (hr0).1 rfl (q_X10_livesNow (hr0) e68) (by decide) ?_
        refine t_l fX10_hourComes_126 rfl rfl rfl rfl ?_
        obtain ⟨V69, v70, e71, h⟩ := bd_some h
        refine kcX10_hasDuty fX10_hourComes_127 (hr0).1 rfl (q_X10_hasDuty (hr0) e71) (by decide) ?_
        obtain ⟨g73, h⟩ := gd_some h
        refine k9_if_ne fX10_hourComes_130 rfl g73 (fun c72 => ?_) (fun c72 => ?_)
        · replace h := ite_f (c72) h
          replace h := lt_some h
          refine k9_iinc fX10_hourComes_174 rfl (Nat.le_of_ble_eq_true rfl) rfl ?_
          refine k9_goto fX10_hourComes_177 rfl ?_
          cases h
          exact h0 rfl _
        · replace h := ite_t (Classical.not_not.mp c72) h
          refine t_l fX10_hourComes_133 rfl rfl rfl rfl ?_
          refine t_l fX10_hourComes_134 rfl rfl rfl rfl ?_
          refine t_l fX10_hourComes_135 rfl rfl rfl rfl ?_
          refine t_l fX10_hourComes_136 rfl rfl rfl rfl ?_
          obtain ⟨V75, v76, e77, h⟩ := bd_some h
          refine kcX10_watches fX10_hourComes_137 (hr0).1 rfl (q_X10_watches (hr0) e77) (by decide) ?_
          refine t_l fX10_hourComes_140 rfl rfl rfl rfl ?_
          refine t_s fX10_hourComes_141 rfl rfl rfl ?_
          refine t_l fX10_hourComes_142 rfl rfl rfl rfl ?_
          refine t_l fX10_hourComes_143 rfl rfl rfl rfl ?_
          refine t_l fX10_hourComes_144 rfl rfl rfl rfl ?_
          obtain ⟨V78, v79, e80, h⟩ := bd_some h
          refine kcX10_watches fX10_hourComes_145 (hr0).1 rfl (q_X10_watches (hr0) e80) (by decide) ?_
          refine t_l fX10_hourComes_148 rfl rfl rfl rfl ?_
          refine t_l fX10_hourComes_149 rfl rfl rfl rfl ?_
          refine t_l fX10_hourComes_150 rfl rfl rfl rfl ?_
          refine t_l fX10_hourComes_151 rfl rfl rfl rfl ?_
          obtain ⟨V81, v82, e83, h⟩ := bd_some h
          refine kcX10_watches fX10_hourComes_152 (hr0).1 rfl (q_X10_watches (hr0) e83) (by decide) ?_
          obtain ⟨V84, v85, e86, h⟩ := bd_some h
          refine kcX10_pointsOf fX10_hourComes_155 (hr0).1 rfl (q_X10_pointsOf (hr0) e86) (by decide) ?_
          refine t_l fX10_hourComes_158 rfl rfl rfl rfl ?_
          refine t_l fX10_hourComes_159 rfl rfl rfl rfl ?_
          refine k9_gr fX10_hourComes_160 (hr0).1 kg_10_49 (s10_49r hr0) ?_
          refine t_s fX10_hourComes_163 rfl rfl rfl ?_
          refine k9_ia fX10_hourComes_164 (s10_49s hr0) (by decide) (by decide) (by decide) ?_
          refine t_s fX10_hourComes_165 rfl rfl rfl ?_
          obtain ⟨g87, h⟩ := gd_some h
          refine k9_idiv fX10_hourComes_167 g87 ⟨by decide, by decide⟩ (by decide) ?_
          obtain ⟨V88, v89, e90, h⟩ := bd_some h
          refine kcX10_made fX10_hourComes_168 (hr0).1 rfl (q_X10_made (hr0) e90) (by decide) ?_
          obtain ⟨V91, v92, e93, h⟩ := bd_some h
          refine kcX10_knowsNow fX10_hourComes_171 (hr0).1 rfl (q_X10_knowsNow (hr0) e93) (by decide) ?_
          replace h := lt_some h
          refine k9_iinc fX10_hourComes_174 rfl (Nat.le_of_ble_eq_true rfl) rfl ?_
          refine k9_goto fX10_hourComes_177 rfl ?_
          cases h
          exact h0 rfl _

theorem tl_X10_hourComes_94 {X : mX} {n z : Nat} {G : mG} {r0 : Nat} (hr0 : is10 G r0) {x1 x2 : Int} {j3 : Option Value} {V V' : mV} {fu : Nat} {q : Nat × Int} {Q : Nat → Nat → mG → mV → Option Value → Prop} (k1 : q.1 = 1 → ∀ j1 j3 : Option Value, T X (6) 213 180 [some (.ref r0), j1, some (.int (iI q.2)), j3] [] n z G V' Q) (h : lp (fun (s : Int) V => B_X10_hourComes_94 G r0 x1 s V) fu x2 V = some (V', q)) : T X (6) 213 94 [some (.ref r0), some (.int (iI x1)), some (.int (iI x2)), j3] [] n z G V Q :=
  lp_go (P0 := fun s V => ∀ j3 : Option Value, T X (6) 213 94 [some (.ref r0), some (.int (iI x1)), some (.int (iI s)), j3] [] n z G V Q) (PE := fun t s V => (t = 1 → ∀ j1 j3 : Option Value, T X (6) 213 180 [some (.ref r0), j1, some (.int (iI s)), j3] [] n z G V Q)) (fun s V V' q hb h0 h1 => fun _ => tb_X10_hourComes_94 hr0  h0 (fun e => (h1 (by omega)) e) hb) fu x2 V V' q h k1 _

theorem tj_X10_hourComes_J28 {X : mX} {n z : Nat} {G : mG} {r0 : Nat} (hr0 : is10 G r0) {x1 : Int} {j2 j3 : Option Value} {V V' : mV} {v : Int} (h : F_X10_hourComes_J28 G r0 x1 V = some (V', v)) : T X (6) 213 28 [some (.ref r0), some (.int (iI x1)), j2, j3] [] n z G V (qv n z G V' v) := by
  unfold F_X10_hourComes_J28 at h
  refine t_s fX10_hourComes_28 rfl rfl rfl ?_
  refine t_l fX10_hourComes_29 rfl rfl rfl rfl ?_
  obtain ⟨V44, u45, e46, h⟩ := bd_some h
  refine tl_X10_hourComes_30 hr0  (fun e47 j3 => ?_) e46
  refine t_s fX10_hourComes_92 rfl rfl rfl ?_
  refine t_l fX10_hourComes_93 rfl rfl rfl rfl ?_
  obtain ⟨V95, u96, e97, h⟩ := bd_some h
  refine tl_X10_hourComes_94 hr0  (fun e98 j1 j3 => ?_) e97
  refine t_ret fX10_hourComes_180 rX10_hourComes ?_
  exact qf_v h

theorem q_X10_hourComes {X : mX} {n z : Nat} {G : mG} {r0 : Nat} (hr0 : is10 G r0) {V V' : mV} {v : Int} (h : F_X10_hourComes G r0 V = some (V', v)) : Rn X (6) 213 [.ref r0] n z G V n z G V' none := by
  refine qv_toR (v := v) (L := [some (.ref r0), none, none, none]) rfl ?_
  unfold F_X10_hourComes at h
  refine t_l fX10_hourComes_0 rfl rfl rfl rfl ?_
  refine k9_gr fX10_hourComes_1 (hr0).1 kg_10_49 (s10_49r hr0) ?_
  refine t_s fX10_hourComes_4 rfl rfl rfl ?_
  refine t_s fX10_hourComes_5 rfl rfl rfl ?_
  refine k9_ia fX10_hourComes_6 (s10_49s hr0) (by decide) (by decide) (by decide) ?_
  refine t_s fX10_hourComes_7 rfl rfl rfl ?_
  refine k9_iadd fX10_hourComes_8 ?_
  refine k9_is fX10_hourComes_9 (s10_49s hr0) (by decide) (by decide) (by decide) ?_
  replace h := lt_some h
  refine t_l fX10_hourComes_10 rfl rfl rfl rfl ?_
  refine k9_gr fX10_hourComes_11 (hr0).1 kg_10_49 (s10_49r hr0) ?_
  refine t_s fX10_hourComes_14 rfl rfl rfl ?_
  refine k9_ia fX10_hourComes_15 (s10_49s hr0) (by decide) (by decide) (by decide) ?_
  refine t_s fX10_hourComes_16 rfl rfl rfl ?_
  obtain ⟨g2, h⟩ := gd_some h
  refine k9_irem fX10_hourComes_18 g2 ⟨by decide, by decide⟩ (by decide) ?_
  replace h := lt_some h
  refine t_l fX10_hourComes_19 rfl rfl rfl rfl ?_
  refine t_l fX10_hourComes_20 rfl rfl rfl rfl ?_
  obtain ⟨g5, h⟩ := gd_some h
  refine k9_if_ne fX10_hourComes_21 rfl g5 (fun c4 => ?_) (fun c4 => ?_)
  · replace h := ite_f (c4) h
    exact tj_X10_hourComes_J28 hr0   h
  · replace h := ite_t (Classical.not_not.mp c4) h
    refine t_l fX10_hourComes_24 rfl rfl rfl rfl ?_
    obtain ⟨V99, v100, e101, h⟩ := bd_some h
    refine kcX10_nightComes fX10_hourComes_25 (hr0).1 rfl (q_X10_nightComes (hr0) e101) (by decide) ?_
    exact tj_X10_hourComes_J28 hr0   h

theorem tb_X10_hoursCome_2 {X : mX} {n z : Nat} {G : mG} {r0 : Nat} (hr0 : is10 G r0) {x1 x2 : Int} {V V' : mV} {q : Nat × Int} {Q : Nat → Nat → mG → mV → Option Value → Prop} (h0 : q.1 = 0 → T X (7) 214 2 [some (.ref r0), some (.int (iI x1)), some (.int (iI q.2))] [] n z G V' Q) (h1 : q.1 = 1 → T X (7) 214 17 [some (.ref r0), some (.int (iI x1)), some (.int (iI q.2))] [] n z G V' Q) (h : B_X10_hoursCome_2 G r0 x1 x2 V = some (V', q)) : T X (7) 214 2 [some (.ref r0), some (.int (iI x1)), some (.int (iI x2))] [] n z G V Q := by
  unfold B_X10_hoursCome_2 at h
  refine t_l fX10_hoursCome_2 rfl rfl rfl rfl ?_
  refine t_l fX10_hoursCome_3 rfl rfl rfl rfl ?_
  obtain ⟨g2, h⟩ := gd_some h
  obtain ⟨g3, h⟩ := gd_some h
  refine k9_ic_ge fX10_hoursCome_4 rfl g2 g3 (fun c1 => ?_) (fun c1 => ?_)
  · replace h := ite_t (c1) h
    cases h
    exact h1 rfl
  · replace h := ite_f (c1) h
    refine t_l fX10_hoursCome_7 rfl rfl rfl rfl ?_
    obtain ⟨V4, v5, e6, h⟩ := bd_some h
    refine kcX10_hourComes fX10_hoursCome_8 (hr0).1 rfl (q_X10_hourComes (hr0) e6) (by decide) ?_
    replace h := lt_some h
    refine k9_iinc fX10_hoursCome_11 rfl (Nat.le_of_ble_eq_true rfl) rfl ?_
    refine k9_goto fX10_hoursCome_14 rfl ?_
    cases h
    exact h0 rfl

theorem tl_X10_hoursCome_2 {X : mX} {n z : Nat} {G : mG} {r0 : Nat} (hr0 : is10 G r0) {x1 x2 : Int} {V V' : mV} {fu : Nat} {q : Nat × Int} {Q : Nat → Nat → mG → mV → Option Value → Prop} (k1 : q.1 = 1 → T X (7) 214 17 [some (.ref r0), some (.int (iI x1)), some (.int (iI q.2))] [] n z G V' Q) (h : lp (fun (s : Int) V => B_X10_hoursCome_2 G r0 x1 s V) fu x2 V = some (V', q)) : T X (7) 214 2 [some (.ref r0), some (.int (iI x1)), some (.int (iI x2))] [] n z G V Q :=
  lp_go (P0 := fun s V => T X (7) 214 2 [some (.ref r0), some (.int (iI x1)), some (.int (iI s))] [] n z G V Q) (PE := fun t s V => (t = 1 → T X (7) 214 17 [some (.ref r0), some (.int (iI x1)), some (.int (iI s))] [] n z G V Q)) (fun s V V' q hb h0 h1 => tb_X10_hoursCome_2 hr0  h0 (fun e => (h1 (by omega)) e) hb) fu x2 V V' q h k1

theorem q_X10_hoursCome {X : mX} {n z : Nat} {G : mG} {r0 : Nat} (hr0 : is10 G r0) {x1 : Int} {V V' : mV} {v : Int} (h : F_X10_hoursCome G r0 x1 V = some (V', v)) : Rn X (7) 214 [.ref r0, .int (iI x1)] n z G V n z G V' none := by
  refine qv_toR (v := v) (L := [some (.ref r0), some (.int (iI x1)), none]) rfl ?_
  unfold F_X10_hoursCome at h
  refine t_s fX10_hoursCome_0 rfl rfl rfl ?_
  refine t_l fX10_hoursCome_1 rfl rfl rfl rfl ?_
  obtain ⟨V8, u9, e10, h⟩ := bd_some h
  refine tl_X10_hoursCome_2 hr0  (fun e11 => ?_) e10
  refine t_ret fX10_hoursCome_17 rX10_hoursCome ?_
  exact qf_v h

theorem tb_X10_isCalled_27 {X : mX} {n z : Nat} {G : mG} {r0 : Nat} (hr0 : is10 G r0) {x1 x2 x3 : Int} {V V' : mV} {q : Nat × Int × Int} {Q : Nat → Nat → mG → mV → Option Value → Prop} (h0 : q.1 = 0 → T X (1) 215 27 [some (.ref r0), some (.int (iI x1)), some (.int (iI q.2.1)), some (.int (iI q.2.2))] [] n z G V' Q) (h1 : q.1 = 1 → T X (1) 215 82 [some (.ref r0), some (.int (iI x1)), some (.int (iI q.2.1)), some (.int (iI q.2.2))] [] n z G V' Q) (h : B_X10_isCalled_27 G r0 x1 x2 x3 V = some (V', q)) : T X (1) 215 27 [some (.ref r0), some (.int (iI x1)), some (.int (iI x2)), some (.int (iI x3))] [] n z G V Q := by
  unfold B_X10_isCalled_27 at h
  refine t_l fX10_isCalled_27 rfl rfl rfl rfl ?_
  refine t_s fX10_isCalled_28 rfl rfl rfl ?_
  obtain ⟨g11, h⟩ := gd_some h
  refine k9_ic_eq fX10_isCalled_29 rfl g11 ⟨by decide, by decide⟩ (fun c10 => ?_) (fun c10 => ?_)
  · replace h := ite_t (c10) h
    cases h
    exact h1 rfl
  · replace h := ite_f (c10) h
    refine t_l fX10_isCalled_32 rfl rfl rfl rfl ?_
    refine t_l fX10_isCalled_33 rfl rfl rfl rfl ?_
    obtain ⟨V12, v13, e14, h⟩ := bd_some h
    refine kcX10_livesNow fX10_isCalled_34 (hr0).1 rfl (q_X10_livesNow (hr0) e14) (by decide) ?_
    refine t_l fX10_isCalled_37 rfl rfl rfl rfl ?_
    obtain ⟨g16, h⟩ := gd_some h
    refine k9_ic_ne fX10_isCalled_38 rfl g16 g11 (fun c15 => ?_) (fun c15 => ?_)
    · replace h := ite_f (c15) h
      cases h
      exact h1 rfl
    · replace h := ite_t (Classical.not_not.mp c15) h
      refine t_l fX10_isCalled_41 rfl rfl rfl rfl ?_
      refine t_l fX10_isCalled_42 rfl rfl rfl rfl ?_
      refine t_l fX10_isCalled_43 rfl rfl rfl rfl ?_
      obtain ⟨V17, v18, e19, h⟩ := bd_some h
      refine kcX10_liveNow fX10_isCalled_44 (hr0).1 rfl (q_X10_liveNow (hr0) e19) (by decide) ?_
      refine t_l fX10_isCalled_47 rfl rfl rfl rfl ?_
      refine k9_gr fX10_isCalled_48 (hr0).1 kg_10_63 (s10_63r hr0) ?_
      refine t_l fX10_isCalled_51 rfl rfl rfl rfl ?_
      refine k9_gi fX10_isCalled_52 (hr0).1 kg_10_64 ?_
      refine t_l fX10_isCalled_55 rfl rfl rfl rfl ?_
      obtain ⟨g20, h⟩ := gd_some h
      refine k9_is fX10_isCalled_56 (s10_63s hr0) g20.1 g20.2.1 g20.2.2 ?_
      replace h := lt_some h
      refine t_l fX10_isCalled_57 rfl rfl rfl rfl ?_
      refine t_s fX10_isCalled_58 rfl rfl rfl ?_
      refine k9_gi fX10_isCalled_59 (hr0).1 kg_10_64 ?_
      refine t_s fX10_isCalled_62 rfl rfl rfl ?_
      refine k9_iadd fX10_isCalled_63 ?_
      refine k9_pi fX10_isCalled_64 (hr0).1 kp_10_64 ?_
      replace h := lt_some h
      refine t_l fX10_isCalled_67 rfl rfl rfl rfl ?_
      refine t_l fX10_isCalled_68 rfl rfl rfl rfl ?_
      refine t_l fX10_isCalled_69 rfl rfl rfl rfl ?_
      refine k9_gr fX10_isCalled_70 (hr0).1 kg_10_41 (s10_41r hr0) ?_
      refine t_s fX10_isCalled_73 rfl rfl rfl ?_
      refine t_l fX10_isCalled_75 rfl rfl rfl rfl ?_
      refine k9_iadd fX10_isCalled_76 ?_
      obtain ⟨g23, h⟩ := gd_some h
      refine k9_ia fX10_isCalled_77 (s10_41s hr0) g23.1 g23.2.1 g23.2.2 ?_
      replace h := lt_some h
      refine t_l fX10_isCalled_78 rfl rfl rfl rfl ?_
      refine k9_goto fX10_isCalled_79 rfl ?_
      cases h
      exact h0 rfl

theorem tl_X10_isCalled_27 {X : mX} {n z : Nat} {G : mG} {r0 : Nat} (hr0 : is10 G r0) {x1 x2 x3 : Int} {V V' : mV} {fu : Nat} {q : Nat × Int × Int} {Q : Nat → Nat → mG → mV → Option Value → Prop} (k1 : q.1 = 1 → T X (1) 215 82 [some (.ref r0), some (.int (iI x1)), some (.int (iI q.2.1)), some (.int (iI q.2.2))] [] n z G V' Q) (h : lp (fun (s : Int × Int) V => B_X10_isCalled_27 G r0 x1 s.1 s.2 V) fu (x2, x3) V = some (V', q)) : T X (1) 215 27 [some (.ref r0), some (.int (iI x1)), some (.int (iI x2)), some (.int (iI x3))] [] n z G V Q :=
  lp_go (P0 := fun s V => T X (1) 215 27 [some (.ref r0), some (.int (iI x1)), some (.int (iI s.1)), some (.int (iI s.2))] [] n z G V Q) (PE := fun t s V => (t = 1 → T X (1) 215 82 [some (.ref r0), some (.int (iI x1)), some (.int (iI s.1)), some (.int (iI s.2))] [] n z G V Q)) (fun s V V' q hb h0 h1 => tb_X10_isCalled_27 hr0  h0 (fun e => (h1 (by omega)) e) hb) fu (x2, x3) V V' q h k1

theorem q_X10_isCalled {X : mX} {n z : Nat} {G : mG} {r0 : Nat} (hr0 : is10 G r0) {x1 : Int} {V V' : mV} {v : Int} (h : F_X10_isCalled G r0 x1 V = some (V', v)) : Rn X (1) 215 [.ref r0, .int (iI x1)] n z G V n z G V' none := by
  refine qv_toR (v := v) (L := [some (.ref r0), some (.int (iI x1)), none, none]) rfl ?_
  unfold F_X10_isCalled at h
  refine t_l fX10_isCalled_0 rfl rfl rfl rfl ?_
  refine t_l fX10_isCalled_1 rfl rfl rfl rfl ?_
  obtain ⟨V1, v2, e3, h⟩ := bd_some h
  refine kcX10_livesNow fX10_isCalled_2 (hr0).1 rfl (q_X10_livesNow (hr0) e3) (by decide) ?_
  refine t_l fX10_isCalled_5 rfl rfl rfl rfl ?_
  refine t_l fX10_isCalled_6 rfl rfl rfl rfl ?_
  refine t_l fX10_isCalled_7 rfl rfl rfl rfl ?_
  refine t_s fX10_isCalled_8 rfl rfl rfl ?_
  obtain ⟨V4, v5, e6, h⟩ := bd_some h
  refine kcX10_liveNow fX10_isCalled_9 (hr0).1 rfl (q_X10_liveNow (hr0) e6) (by decide) ?_
  refine t_l fX10_isCalled_12 rfl rfl rfl rfl ?_
  refine t_s fX10_isCalled_13 rfl rfl rfl ?_
  refine k9_pi fX10_isCalled_14 (hr0).1 kp_10_64 ?_
  replace h := lt_some h
  refine t_l fX10_isCalled_17 rfl rfl rfl rfl ?_
  refine k9_gr fX10_isCalled_18 (hr0).1 kg_10_41 (s10_41r hr0) ?_
  refine t_s fX10_isCalled_21 rfl rfl rfl ?_
  refine t_l fX10_isCalled_23 rfl rfl rfl rfl ?_
  refine k9_iadd fX10_isCalled_24 ?_
  obtain ⟨g8, h⟩ := gd_some h
  refine k9_ia fX10_isCalled_25 (s10_41s hr0) g8.1 g8.2.1 g8.2.2 ?_
  replace h := lt_some h
  refine t_l fX10_isCalled_26 rfl rfl rfl rfl ?_
  obtain ⟨V25, u26, e27, h⟩ := bd_some h
  refine tl_X10_isCalled_27 hr0  (fun e28 => ?_) e27
  refine t_l fX10_isCalled_82 rfl rfl rfl rfl ?_
  refine t_l fX10_isCalled_83 rfl rfl rfl rfl ?_
  refine k9_pi fX10_isCalled_84 (hr0).1 kp_10_65 ?_
  replace h := lt_some h
  refine t_ret fX10_isCalled_87 rX10_isCalled ?_
  exact qf_v h

theorem tj_X10_countOf_J46_4 {X : mX} {n z : Nat} {G : mG} {r0 : Nat} (hr0 : is10 G r0) {x1 x2 x3 : Int} {V V' : mV} {q : Nat × Int × Int} {Q : Nat → Nat → mG → mV → Option Value → Prop} (h0 : q.1 = 0 → T X (2) 216 4 [some (.ref r0), some (.int (iI x1)), some (.int (iI q.2.1)), some (.int (iI q.2.2))] [] n z G V' Q) (h1 : q.1 = 1 → T X (2) 216 79 [some (.ref r0), some (.int (iI x1)), some (.int (iI q.2.1)), some (.int (iI q.2.2))] [] n z G V' Q) (h : F_X10_countOf_J46_4 G r0 x1 x2 x3 V = some (V', q)) : T X (2) 216 46 [some (.ref r0), some (.int (iI x1)), some (.int (iI x2)), some (.int (iI x3))] [] n z G V Q := by
  unfold F_X10_countOf_J46_4 at h
  refine t_l fX10_countOf_46 rfl rfl rfl rfl ?_
  refine t_s fX10_countOf_47 rfl rfl rfl ?_
  obtain ⟨g12, h⟩ := gd_some h
  refine k9_ic_ne fX10_countOf_49 rfl g12 ⟨by decide, by decide⟩ (fun c11 => ?_) (fun c11 => ?_)
  · replace h := ite_f (c11) h
    replace h := lt_some h
    refine k9_iinc fX10_countOf_73 rfl (Nat.le_of_ble_eq_true rfl) rfl ?_
    refine k9_goto fX10_countOf_76 rfl ?_
    cases h
    exact h0 rfl
  · replace h := ite_t (Classical.not_not.mp c11) h
    refine t_l fX10_countOf_52 rfl rfl rfl rfl ?_
    refine t_l fX10_countOf_53 rfl rfl rfl rfl ?_
    obtain ⟨V14, v15, e16, h⟩ := bd_some h
    refine kcX10_livesNow fX10_countOf_54 (hr0).1 rfl (q_X10_livesNow (hr0) e16) (by decide) ?_
    refine t_s fX10_countOf_57 rfl rfl rfl ?_
    obtain ⟨g18, h⟩ := gd_some h
    refine k9_ic_eq fX10_countOf_58 rfl g18 ⟨by decide, by decide⟩ (fun c17 => ?_) (fun c17 => ?_)
    · replace h := ite_t (c17) h
      replace h := lt_some h
      refine k9_iinc fX10_countOf_73 rfl (Nat.le_of_ble_eq_true rfl) rfl ?_
      refine k9_goto fX10_countOf_76 rfl ?_
      cases h
      exact h0 rfl
    · replace h := ite_f (c17) h
      refine t_l fX10_countOf_61 rfl rfl rfl rfl ?_
      refine t_l fX10_countOf_62 rfl rfl rfl rfl ?_
      obtain ⟨V20, v21, e22, h⟩ := bd_some h
      refine kcX10_livesNow fX10_countOf_63 (hr0).1 rfl (q_X10_livesNow (hr0) e22) (by decide) ?_
      refine t_l fX10_countOf_66 rfl rfl rfl rfl ?_
      obtain ⟨g24, h⟩ := gd_some h
      obtain ⟨g25, h⟩ := gd_some h
      refine k9_ic_eq fX10_countOf_67 rfl g24 g25 (fun c23 => ?_) (fun c23 => ?_)
      · replace h := ite_t (c23) h
        replace h := lt_some h
        refine k9_iinc fX10_countOf_73 rfl (Nat.le_of_ble_eq_true rfl) rfl ?_
        refine k9_goto fX10_countOf_76 rfl ?_
        cases h
        exact h0 rfl
      · replace h := ite_f (c23) h
        replace h := lt_some h
        refine k9_iinc fX10_countOf_70 rfl (Nat.le_of_ble_eq_true rfl) rfl ?_
        replace h := lt_some h
        refine k9_iinc fX10_countOf_73 rfl (Nat.le_of_ble_eq_true rfl) rfl ?_
        refine k9_goto fX10_countOf_76 rfl ?_
        cases h
        exact h0 rfl

theorem tj_X10_countOf_J29_4 {X : mX} {n z : Nat} {G : mG} {r0 : Nat} (hr0 : is10 G r0) {x1 x2 x3 : Int} {V V' : mV} {q : Nat × Int × Int} {Q : Nat → Nat → mG → mV → Option Value → Prop} (h0 : q.1 = 0 → T X (2) 216 4 [some (.ref r0), some (.int (iI x1)), some (.int (iI q.2.1)), some (.int (iI q.2.2))] [] n z G V' Q) (h1 : q.1 = 1 → T X (2) 216 79 [some (.ref r0), some (.int (iI x1)), some (.int (iI q.2.1)), some (.int (iI q.2.2))] [] n z G V' Q) (h : F_X10_countOf_J29_4 G r0 x1 x2 x3 V = some (V', q)) : T X (2) 216 29 [some (.ref r0), some (.int (iI x1)), some (.int (iI x2)), some (.int (iI x3))] [] n z G V Q := by
  unfold F_X10_countOf_J29_4 at h
  refine t_l fX10_countOf_29 rfl rfl rfl rfl ?_
  refine t_s fX10_countOf_30 rfl rfl rfl ?_
  obtain ⟨g10, h⟩ := gd_some h
  refine k9_ic_ne fX10_countOf_31 rfl g10 ⟨by decide, by decide⟩ (fun c9 => ?_) (fun c9 => ?_)
  · replace h := ite_f (c9) h
    exact tj_X10_countOf_J46_4 hr0  h0 h1 h
  · replace h := ite_t (Classical.not_not.mp c9) h
    refine t_l fX10_countOf_34 rfl rfl rfl rfl ?_
    refine t_l fX10_countOf_35 rfl rfl rfl rfl ?_
    obtain ⟨V29, v30, e31, h⟩ := bd_some h
    refine kcX10_whoLives fX10_countOf_36 (hr0).1 rfl (q_X10_whoLives (hr0) e31) (by decide) ?_
    refine t_s fX10_countOf_39 rfl rfl rfl ?_
    obtain ⟨g33, h⟩ := gd_some h
    refine k9_ic_ne fX10_countOf_40 rfl g33 ⟨by decide, by decide⟩ (fun c32 => ?_) (fun c32 => ?_)
    · replace h := ite_f (c32) h
      exact tj_X10_countOf_J46_4 hr0  h0 h1 h
    · replace h := ite_t (Classical.not_not.mp c32) h
      replace h := lt_some h
      refine k9_iinc fX10_countOf_43 rfl (Nat.le_of_ble_eq_true rfl) rfl ?_
      exact tj_X10_countOf_J46_4 hr0  h0 h1 h

theorem tb_X10_countOf_4 {X : mX} {n z : Nat} {G : mG} {r0 : Nat} (hr0 : is10 G r0) {x1 x2 x3 : Int} {V V' : mV} {q : Nat × Int × Int} {Q : Nat → Nat → mG → mV → Option Value → Prop} (h0 : q.1 = 0 → T X (2) 216 4 [some (.ref r0), some (.int (iI x1)), some (.int (iI q.2.1)), some (.int (iI q.2.2))] [] n z G V' Q) (h1 : q.1 = 1 → T X (2) 216 79 [some (.ref r0), some (.int (iI x1)), some (.int (iI q.2.1)), some (.int (iI q.2.2))] [] n z G V' Q) (h : B_X10_countOf_4 G r0 x1 x2 x3 V = some (V', q)) : T X (2) 216 4 [some (.ref r0), some (.int (iI x1)), some (.int (iI x2)), some (.int (iI x3))] [] n z G V Q := by
  unfold B_X10_countOf_4 at h
  refine t_l fX10_countOf_4 rfl rfl rfl rfl ?_
  refine t_l fX10_countOf_5 rfl rfl rfl rfl ?_
  obtain ⟨V1, v2, e3, h⟩ := bd_some h
  refine kcX10_peopleMany fX10_countOf_6 (hr0).1 rfl (q_X10_peopleMany (hr0) e3) (by decide) ?_
  obtain ⟨g5, h⟩ := gd_some h
  obtain ⟨g6, h⟩ := gd_some h
  refine k9_ic_ge fX10_countOf_9 rfl g5 g6 (fun c4 => ?_) (fun c4 => ?_)
  · replace h := ite_t (c4) h
    cases h
    exact h1 rfl
  · replace h := ite_f (c4) h
    refine t_l fX10_countOf_12 rfl rfl rfl rfl ?_
    refine t_s fX10_countOf_13 rfl rfl rfl ?_
    obtain ⟨g8, h⟩ := gd_some h
    refine k9_ic_ne fX10_countOf_14 rfl g8 ⟨by decide, by decide⟩ (fun c7 => ?_) (fun c7 => ?_)
    · replace h := ite_f (c7) h
      exact tj_X10_countOf_J29_4 hr0  h0 h1 h
    · replace h := ite_t (Classical.not_not.mp c7) h
      refine t_l fX10_countOf_17 rfl rfl rfl rfl ?_
      refine t_l fX10_countOf_18 rfl rfl rfl rfl ?_
      obtain ⟨V35, v36, e37, h⟩ := bd_some h
      refine kcX10_livesNow fX10_countOf_19 (hr0).1 rfl (q_X10_livesNow (hr0) e37) (by decide) ?_
      refine t_s fX10_countOf_22 rfl rfl rfl ?_
      obtain ⟨g39, h⟩ := gd_some h
      refine k9_ic_ne fX10_countOf_23 rfl g39 ⟨by decide, by decide⟩ (fun c38 => ?_) (fun c38 => ?_)
      · replace h := ite_f (c38) h
        exact tj_X10_countOf_J29_4 hr0  h0 h1 h
      · replace h := ite_t (Classical.not_not.mp c38) h
        replace h := lt_some h
        refine k9_iinc fX10_countOf_26 rfl (Nat.le_of_ble_eq_true rfl) rfl ?_
        exact tj_X10_countOf_J29_4 hr0  h0 h1 h

theorem tl_X10_countOf_4 {X : mX} {n z : Nat} {G : mG} {r0 : Nat} (hr0 : is10 G r0) {x1 x2 x3 : Int} {V V' : mV} {fu : Nat} {q : Nat × Int × Int} {Q : Nat → Nat → mG → mV → Option Value → Prop} (k1 : q.1 = 1 → T X (2) 216 79 [some (.ref r0), some (.int (iI x1)), some (.int (iI q.2.1)), some (.int (iI q.2.2))] [] n z G V' Q) (h : lp (fun (s : Int × Int) V => B_X10_countOf_4 G r0 x1 s.1 s.2 V) fu (x2, x3) V = some (V', q)) : T X (2) 216 4 [some (.ref r0), some (.int (iI x1)), some (.int (iI x2)), some (.int (iI x3))] [] n z G V Q :=
  lp_go (P0 := fun s V => T X (2) 216 4 [some (.ref r0), some (.int (iI x1)), some (.int (iI s.1)), some (.int (iI s.2))] [] n z G V Q) (PE := fun t s V => (t = 1 → T X (2) 216 79 [some (.ref r0), some (.int (iI x1)), some (.int (iI s.1)), some (.int (iI s.2))] [] n z G V Q)) (fun s V V' q hb h0 h1 => tb_X10_countOf_4 hr0  h0 (fun e => (h1 (by omega)) e) hb) fu (x2, x3) V V' q h k1

theorem q_X10_countOf {X : mX} {n z : Nat} {G : mG} {r0 : Nat} (hr0 : is10 G r0) {x1 : Int} {V V' : mV} {v : Int} (h : F_X10_countOf G r0 x1 V = some (V', v)) : Rn X (2) 216 [.ref r0, .int (iI x1)] n z G V n z G V' (some (.int (iI v))) := by
  refine qi_toR (v := v) (L := [some (.ref r0), some (.int (iI x1)), none, none]) rfl ?_
  unfold F_X10_countOf at h
  refine t_s fX10_countOf_0 rfl rfl rfl ?_
  refine t_l fX10_countOf_1 rfl rfl rfl rfl ?_
  refine t_s fX10_countOf_2 rfl rfl rfl ?_
  refine t_l fX10_countOf_3 rfl rfl rfl rfl ?_
  obtain ⟨V41, u42, e43, h⟩ := bd_some h
  refine tl_X10_countOf_4 hr0  (fun e44 => ?_) e43
  refine t_l fX10_countOf_79 rfl rfl rfl rfl ?_
  refine t_ret fX10_countOf_80 rX10_countOf ?_
  exact qf_i h

theorem q_X10_has {X : mX} {n z : Nat} {G : mG} {r0 : Nat} (hr0 : is10 G r0) {x1 : Int} {V V' : mV} {v : Int} (h : F_X10_has G r0 x1 V = some (V', v)) : Rn X (3) 217 [.ref r0, .int (iI x1)] n z G V n z G V' (some (.int (iI v))) := by
  refine qi_toR (v := v) (L := [some (.ref r0), some (.int (iI x1))]) rfl ?_
  unfold F_X10_has at h
  refine t_l fX10_has_0 rfl rfl rfl rfl ?_
  obtain ⟨g1, h⟩ := gd_some h
  by_cases c2 : x1 = 0
  · replace h := ite_t c2 h
    refine k9_sw 52 fX10_has_1 g1 (by rw [c2]; rfl) (by rw [c2]; exact Or.inr (Or.inr rfl)) ?_
    refine t_l fX10_has_52 rfl rfl rfl rfl ?_
    obtain ⟨V3, v4, e5, h⟩ := bd_some h
    refine kcX10_peopleMany fX10_has_53 (hr0).1 rfl (q_X10_peopleMany (hr0) e5) (by decide) ?_
    refine t_ret fX10_has_56 rX10_has ?_
    exact qf_i h
  replace h := ite_f c2 h
  by_cases c6 : x1 = 1
  · replace h := ite_t c6 h
    refine k9_sw 57 fX10_has_1 g1 (by rw [c6]; rfl) (by rw [c6]; exact Or.inr (Or.inr rfl)) ?_
    refine t_l fX10_has_57 rfl rfl rfl rfl ?_
    refine k9_gr fX10_has_58 (hr0).1 kg_10_36 (s10_36r hr0) ?_
    refine t_s fX10_has_61 rfl rfl rfl ?_
    refine k9_ia fX10_has_62 (s10_36s hr0) (by decide) (by decide) (by decide) ?_
    refine t_ret fX10_has_63 rX10_has ?_
    exact qf_i h
  replace h := ite_f c6 h
  by_cases c7 : x1 = 2
  · replace h := ite_t c7 h
    refine k9_sw 64 fX10_has_1 g1 (by rw [c7]; rfl) (by rw [c7]; exact Or.inr (Or.inr rfl)) ?_
    refine t_l fX10_has_64 rfl rfl rfl rfl ?_
    obtain ⟨V8, v9, e10, h⟩ := bd_some h
    refine kcX10_dutyMany fX10_has_65 (hr0).1 rfl (q_X10_dutyMany (hr0) e10) (by decide) ?_
    refine t_ret fX10_has_68 rX10_has ?_
    exact qf_i h
  replace h := ite_f c7 h
  by_cases c11 : x1 = 3
  · replace h := ite_t c11 h
    refine k9_sw 69 fX10_has_1 g1 (by rw [c11]; rfl) (by rw [c11]; exact Or.inr (Or.inr rfl)) ?_
    refine t_l fX10_has_69 rfl rfl rfl rfl ?_
    refine k9_gr fX10_has_70 (hr0).1 kg_10_49 (s10_49r hr0) ?_
    refine t_s fX10_has_73 rfl rfl rfl ?_
    refine k9_ia fX10_has_74 (s10_49s hr0) (by decide) (by decide) (by decide) ?_
    refine t_ret fX10_has_75 rX10_has ?_
    exact qf_i h
  replace h := ite_f c11 h
  by_cases c12 : x1 = 4
  · replace h := ite_t c12 h
    refine k9_sw 76 fX10_has_1 g1 (by rw [c12]; rfl) (by rw [c12]; exact Or.inr (Or.inr rfl)) ?_
    refine t_l fX10_has_76 rfl rfl rfl rfl ?_
    refine t_l fX10_has_77 rfl rfl rfl rfl ?_
    obtain ⟨V13, v14, e15, h⟩ := bd_some h
    refine kcX10_countOf fX10_has_78 (hr0).1 rfl (q_X10_countOf (hr0) e15) (by decide) ?_
    refine t_ret fX10_has_81 rX10_has ?_
    exact qf_i h
  replace h := ite_f c12 h
  by_cases c16 : x1 = 5
  · replace h := ite_t c16 h
    refine k9_sw 76 fX10_has_1 g1 (by rw [c16]; rfl) (by rw [c16]; exact Or.inr (Or.inr rfl)) ?_
    refine t_l fX10_has_76 rfl rfl rfl rfl ?_
    refine t_l fX10_has_77 rfl rfl rfl rfl ?_
    obtain ⟨V17, v18, e19, h⟩ := bd_some h
    refine kcX10_countOf fX10_has_78 (hr0).1 rfl (q_X10_countOf (hr0) e19) (by decide) ?_
    refine t_ret fX10_has_81 rX10_has ?_
    exact qf_i h
  replace h := ite_f c16 h
  by_cases c20 : x1 = 6
  · replace h := ite_t c20 h
    refine k9_sw 76 fX10_has_1 g1 (by rw [c20]; rfl) (by rw [c20]; exact Or.inr (Or.inr rfl)) ?_
    refine t_l fX10_has_76 rfl rfl rfl rfl ?_
    refine t_l fX10_has_77 rfl rfl rfl rfl ?_
    obtain ⟨V21, v22, e23, h⟩ := bd_some h
    refine kcX10_countOf fX10_has_78 (hr0).1 rfl (q_X10_countOf (hr0) e23) (by decide) ?_
    refine t_ret fX10_has_81 rX10_has ?_
    exact qf_i h
  replace h := ite_f c20 h
  by_cases c24 : x1 = 7
  · replace h := ite_t c24 h
    refine k9_sw 82 fX10_has_1 g1 (by rw [c24]; rfl) (by rw [c24]; exact Or.inr (Or.inr rfl)) ?_
    refine t_l fX10_has_82 rfl rfl rfl rfl ?_
    refine k9_gr fX10_has_83 (hr0).1 kg_10_49 (s10_49r hr0) ?_
    refine t_s fX10_has_86 rfl rfl rfl ?_
    refine k9_ia fX10_has_88 (s10_49s hr0) (by decide) (by decide) (by decide) ?_
    refine t_ret fX10_has_89 rX10_has ?_
    exact qf_i h
  replace h := ite_f c24 h
  by_cases c25 : x1 = 8
  · replace h := ite_t c25 h
    refine k9_sw 90 fX10_has_1 g1 (by rw [c25]; rfl) (by rw [c25]; exact Or.inr (Or.inr rfl)) ?_
    refine t_l fX10_has_90 rfl rfl rfl rfl ?_
    refine k9_gi fX10_has_91 (hr0).1 kg_10_69 ?_
    refine t_ret fX10_has_94 rX10_has ?_
    exact qf_i h
  replace h := ite_f c25 h
  have hd1 : (x1 < 0 ∨ 8 < x1) := by omega
  refine k9_sw 95 fX10_has_1 g1 (by rw [if_pos hd1]; rfl) (by omega) ?_
  refine t_s fX10_has_95 rfl rfl rfl ?_
  refine t_ret fX10_has_96 rX10_has ?_
  exact qf_i h


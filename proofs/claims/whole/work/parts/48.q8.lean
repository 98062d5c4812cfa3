theorem tb_X10_slips_45 {X : mX} {n z : Nat} {G : mG} {r0 : Nat} (hr0 : is10 G r0) {x1 x2 x3 x4 : Int} {V V' : mV} {q : Nat × Int × Int} {Q : Nat → Nat → mG → mV → Option Value → Prop} (h0 : q.1 = 0 → T X (2) 249 45 [some (.ref r0), some (.int (iI x1)), some (.int (iI x2)), some (.int (iI q.2.1)), some (.int (iI q.2.2))] [] n z G V' Q) (h1 : q.1 = 1 → T X (2) 249 108 [some (.ref r0), some (.int (iI x1)), some (.int (iI x2)), some (.int (iI q.2.1)), some (.int (iI q.2.2))] [] n z G V' Q) (h : B_X10_slips_45 G r0 x1 x2 x3 x4 V = some (V', q)) : T X (2) 249 45 [some (.ref r0), some (.int (iI x1)), some (.int (iI x2)), some (.int (iI x3)), some (.int (iI x4))] [] n z G V Q := by
  unfold B_X10_slips_45 at h
  refine t_l fX10_slips_45 rfl rfl rfl rfl ?_
  refine t_l fX10_slips_47 rfl rfl rfl rfl ?_
  obtain ⟨g9, h⟩ := gd_some h
  obtain ⟨g10, h⟩ := gd_some h
  refine k9_ic_ge fX10_slips_48 rfl g9 g10 (fun c8 => ?_) (fun c8 => ?_)
  · replace h := ite_t (c8) h
    cases h
    exact h1 rfl
  · replace h := ite_f (c8) h
    refine t_l fX10_slips_51 rfl rfl rfl rfl ?_
    obtain ⟨g12, h⟩ := gd_some h
    refine k9_if_eq fX10_slips_52 rfl g12 (fun c11 => ?_) (fun c11 => ?_)
    · replace h := ite_t (c11) h
      cases h
      exact h1 rfl
    · replace h := ite_f (c11) h
      refine t_l fX10_slips_55 rfl rfl rfl rfl ?_
      refine k9_gr fX10_slips_56 (hr0).1 kg_10_0 (s10_0r hr0) ?_
      refine t_l fX10_slips_59 rfl rfl rfl rfl ?_
      obtain ⟨g13, h⟩ := gd_some h
      refine k9_ia fX10_slips_61 (s10_0s hr0) g13.1 g13.2.1 g13.2.2 ?_
      refine t_s fX10_slips_62 rfl rfl rfl ?_
      obtain ⟨g15, h⟩ := gd_some h
      refine k9_ic_ge fX10_slips_64 rfl g15 ⟨by decide, by decide⟩ (fun c14 => ?_) (fun c14 => ?_)
      · replace h := ite_t (c14) h
        refine t_s fX10_slips_100 rfl rfl rfl ?_
        refine t_l fX10_slips_101 rfl rfl rfl rfl ?_
        replace h := lt_some h
        refine k9_iinc fX10_slips_102 rfl (Nat.le_of_ble_eq_true rfl) rfl ?_
        refine k9_goto fX10_slips_105 rfl ?_
        cases h
        exact h0 rfl
      · replace h := ite_f (c14) h
        refine t_l fX10_slips_67 rfl rfl rfl rfl ?_
        refine t_l fX10_slips_68 rfl rfl rfl rfl ?_
        refine k9_gr fX10_slips_69 (hr0).1 kg_10_0 (s10_0r hr0) ?_
        refine t_l fX10_slips_72 rfl rfl rfl rfl ?_
        refine t_s fX10_slips_74 rfl rfl rfl ?_
        refine k9_iadd fX10_slips_75 ?_
        obtain ⟨g17, h⟩ := gd_some h
        refine k9_ia fX10_slips_76 (s10_0s hr0) g17.1 g17.2.1 g17.2.2 ?_
        obtain ⟨V18, v19, e20, h⟩ := bd_some h
        refine kcX10_isTask fX10_slips_77 (hr0).1 rfl (q_X10_isTask (hr0) e20) (by decide) ?_
        obtain ⟨g22, h⟩ := gd_some h
        refine k9_if_eq fX10_slips_80 rfl g22 (fun c21 => ?_) (fun c21 => ?_)
        · replace h := ite_t (c21) h
          refine t_s fX10_slips_100 rfl rfl rfl ?_
          refine t_l fX10_slips_101 rfl rfl rfl rfl ?_
          replace h := lt_some h
          refine k9_iinc fX10_slips_102 rfl (Nat.le_of_ble_eq_true rfl) rfl ?_
          refine k9_goto fX10_slips_105 rfl ?_
          cases h
          exact h0 rfl
        · replace h := ite_f (c21) h
          refine t_l fX10_slips_83 rfl rfl rfl rfl ?_
          refine k9_gr fX10_slips_84 (hr0).1 kg_10_0 (s10_0r hr0) ?_
          refine t_l fX10_slips_87 rfl rfl rfl rfl ?_
          refine t_s fX10_slips_89 rfl rfl rfl ?_
          refine k9_iadd fX10_slips_90 ?_
          obtain ⟨g24, h⟩ := gd_some h
          refine k9_ia fX10_slips_91 (s10_0s hr0) g24.1 g24.2.1 g24.2.2 ?_
          refine t_s fX10_slips_92 rfl rfl rfl ?_
          obtain ⟨g26, h⟩ := gd_some h
          refine k9_ic_ge fX10_slips_93 rfl g26 ⟨by decide, by decide⟩ (fun c25 => ?_) (fun c25 => ?_)
          · replace h := ite_t (c25) h
            refine t_s fX10_slips_100 rfl rfl rfl ?_
            refine t_l fX10_slips_101 rfl rfl rfl rfl ?_
            replace h := lt_some h
            refine k9_iinc fX10_slips_102 rfl (Nat.le_of_ble_eq_true rfl) rfl ?_
            refine k9_goto fX10_slips_105 rfl ?_
            cases h
            exact h0 rfl
          · replace h := ite_f (c25) h
            refine t_s fX10_slips_96 rfl rfl rfl ?_
            refine k9_goto fX10_slips_97 rfl ?_
            refine t_l fX10_slips_101 rfl rfl rfl rfl ?_
            replace h := lt_some h
            refine k9_iinc fX10_slips_102 rfl (Nat.le_of_ble_eq_true rfl) rfl ?_
            refine k9_goto fX10_slips_105 rfl ?_
            cases h
            exact h0 rfl

theorem tl_X10_slips_45 {X : mX} {n z : Nat} {G : mG} {r0 : Nat} (hr0 : is10 G r0) {x1 x2 x3 x4 : Int} {V V' : mV} {fu : Nat} {q : Nat × Int × Int} {Q : Nat → Nat → mG → mV → Option Value → Prop} (k1 : q.1 = 1 → T X (2) 249 108 [some (.ref r0), some (.int (iI x1)), some (.int (iI x2)), some (.int (iI q.2.1)), some (.int (iI q.2.2))] [] n z G V' Q) (h : lp (fun (s : Int × Int) V => B_X10_slips_45 G r0 x1 x2 s.1 s.2 V) fu (x3, x4) V = some (V', q)) : T X (2) 249 45 [some (.ref r0), some (.int (iI x1)), some (.int (iI x2)), some (.int (iI x3)), some (.int (iI x4))] [] n z G V Q :=
  lp_go (P0 := fun s V => T X (2) 249 45 [some (.ref r0), some (.int (iI x1)), some (.int (iI x2)), some (.int (iI s.1)), some (.int (iI s.2))] [] n z G V Q) (PE := fun t s V => (t = 1 → T X (2) 249 108 [some (.ref r0), some (.int (iI x1)), some (.int (iI x2)), some (.int (iI s.1)), some (.int (iI s.2))] [] n z G V Q)) (fun s V V' q hb h0 h1 => tb_X10_slips_45 hr0  h0 (fun e => (h1 (by omega)) e) hb) fu (x3, x4) V V' q h k1

theorem tb_X10_slips_121 {X : mX} {n z : Nat} {G : mG} {r0 : Nat} (hr0 : is10 G r0) {x1 x2 x4 : Int} {j3 : Option Value} {V V' : mV} {q : Nat × Int} {Q : Nat → Nat → mG → mV → Option Value → Prop} (h0 : q.1 = 0 → ∀ j3 : Option Value, T X (2) 249 121 [some (.ref r0), some (.int (iI x1)), some (.int (iI x2)), j3, some (.int (iI q.2))] [] n z G V' Q) (h1 : q.1 = 1 → ∀ j3 : Option Value, T X (2) 249 147 [some (.ref r0), some (.int (iI x1)), some (.int (iI x2)), j3, some (.int (iI q.2))] [] n z G V' Q) (h : B_X10_slips_121 G r0 x1 x2 x4 V = some (V', q)) : T X (2) 249 121 [some (.ref r0), some (.int (iI x1)), some (.int (iI x2)), j3, some (.int (iI x4))] [] n z G V Q := by
  unfold B_X10_slips_121 at h
  refine t_l fX10_slips_121 rfl rfl rfl rfl ?_
  refine t_l fX10_slips_123 rfl rfl rfl rfl ?_
  obtain ⟨g36, h⟩ := gd_some h
  obtain ⟨g37, h⟩ := gd_some h
  refine k9_ic_ge fX10_slips_124 rfl g36 g37 (fun c35 => ?_) (fun c35 => ?_)
  · replace h := ite_t (c35) h
    cases h
    exact h1 rfl _
  · replace h := ite_f (c35) h
    refine t_l fX10_slips_127 rfl rfl rfl rfl ?_
    refine k9_gr fX10_slips_128 (hr0).1 kg_10_74 (s10_74r hr0) ?_
    refine t_l fX10_slips_131 rfl rfl rfl rfl ?_
    refine t_l fX10_slips_133 rfl rfl rfl rfl ?_
    refine k9_gr fX10_slips_134 (hr0).1 kg_10_0 (s10_0r hr0) ?_
    refine t_l fX10_slips_137 rfl rfl rfl rfl ?_
    obtain ⟨g38, h⟩ := gd_some h
    refine k9_ia fX10_slips_139 (s10_0s hr0) g38.1 g38.2.1 g38.2.2 ?_
    obtain ⟨g39, h⟩ := gd_some h
    refine k9_is fX10_slips_140 (s10_74s hr0) g39.1 g39.2.1 g39.2.2 ?_
    replace h := lt_some h
    replace h := lt_some h
    refine k9_iinc fX10_slips_141 rfl (Nat.le_of_ble_eq_true rfl) rfl ?_
    refine k9_goto fX10_slips_144 rfl ?_
    cases h
    exact h0 rfl _

theorem tl_X10_slips_121 {X : mX} {n z : Nat} {G : mG} {r0 : Nat} (hr0 : is10 G r0) {x1 x2 x4 : Int} {j3 : Option Value} {V V' : mV} {fu : Nat} {q : Nat × Int} {Q : Nat → Nat → mG → mV → Option Value → Prop} (k1 : q.1 = 1 → ∀ j3 : Option Value, T X (2) 249 147 [some (.ref r0), some (.int (iI x1)), some (.int (iI x2)), j3, some (.int (iI q.2))] [] n z G V' Q) (h : lp (fun (s : Int) V => B_X10_slips_121 G r0 x1 x2 s V) fu x4 V = some (V', q)) : T X (2) 249 121 [some (.ref r0), some (.int (iI x1)), some (.int (iI x2)), j3, some (.int (iI x4))] [] n z G V Q :=
  lp_go (P0 := fun s V => ∀ j3 : Option Value, T X (2) 249 121 [some (.ref r0), some (.int (iI x1)), some (.int (iI x2)), j3, some (.int (iI s))] [] n z G V Q) (PE := fun t s V => (t = 1 → ∀ j3 : Option Value, T X (2) 249 147 [some (.ref r0), some (.int (iI x1)), some (.int (iI x2)), j3, some (.int (iI s))] [] n z G V Q)) (fun s V V' q hb h0 h1 => fun _ => tb_X10_slips_121 hr0  h0 (fun e => (h1 (by omega)) e) hb) fu x4 V V' q h k1 _

theorem tj_X10_slips_J108 {X : mX} {n z : Nat} {G : mG} {r0 : Nat} (hr0 : is10 G r0) {x1 x2 x3 : Int} {j4 : Option Value} {V V' : mV} {v : Int} (h : F_X10_slips_J108 G r0 x1 x2 x3 V = some (V', v)) : T X (2) 249 108 [some (.ref r0), some (.int (iI x1)), some (.int (iI x2)), some (.int (iI x3)), j4] [] n z G V (qi n z G V' v) := by
  unfold F_X10_slips_J108 at h
  refine t_l fX10_slips_108 rfl rfl rfl rfl ?_
  obtain ⟨g34, h⟩ := gd_some h
  refine k9_if_ne fX10_slips_109 rfl g34 (fun c33 => ?_) (fun c33 => ?_)
  · replace h := ite_f (c33) h
    refine t_s fX10_slips_118 rfl rfl rfl ?_
    refine t_l fX10_slips_119 rfl rfl rfl rfl ?_
    obtain ⟨V42, u43, e44, h⟩ := bd_some h
    refine tl_X10_slips_121 hr0  (fun e45 j3 => ?_) e44
    refine t_l fX10_slips_147 rfl rfl rfl rfl ?_
    refine t_l fX10_slips_148 rfl rfl rfl rfl ?_
    refine t_s fX10_slips_149 rfl rfl rfl ?_
    obtain ⟨g46, h⟩ := gd_some h
    refine k9_idiv fX10_slips_150 g46 ⟨by decide, by decide⟩ (by decide) ?_
    refine k9_pi fX10_slips_151 (hr0).1 kp_10_72 ?_
    replace h := lt_some h
    refine t_l fX10_slips_154 rfl rfl rfl rfl ?_
    refine t_l fX10_slips_155 rfl rfl rfl rfl ?_
    refine k9_pi fX10_slips_156 (hr0).1 kp_10_73 ?_
    replace h := lt_some h
    refine t_l fX10_slips_159 rfl rfl rfl rfl ?_
    refine k9_gi fX10_slips_160 (hr0).1 kg_10_72 ?_
    refine t_ret fX10_slips_163 rX10_slips ?_
    exact qf_i h
  · replace h := ite_t (Classical.not_not.mp c33) h
    refine t_l fX10_slips_112 rfl rfl rfl rfl ?_
    refine t_s fX10_slips_113 rfl rfl rfl ?_
    obtain ⟨V49, v50, e51, h⟩ := bd_some h
    refine kcX10_refuses fX10_slips_114 (hr0).1 rfl (q_X10_refuses (hr0) e51) (by decide) ?_
    refine t_ret fX10_slips_117 rX10_slips ?_
    exact qf_i h

theorem tj_X10_slips_J41 {X : mX} {n z : Nat} {G : mG} {r0 : Nat} (hr0 : is10 G r0) {x1 x2 s0 : Int} {j3 j4 : Option Value} {V V' : mV} {v : Int} (h : F_X10_slips_J41 G r0 x1 x2 s0 V = some (V', v)) : T X (2) 249 41 [some (.ref r0), some (.int (iI x1)), some (.int (iI x2)), j3, j4] [.int (iI s0)] n z G V (qi n z G V' v) := by
  unfold F_X10_slips_J41 at h
  refine t_l fX10_slips_41 rfl rfl rfl rfl ?_
  refine t_s fX10_slips_42 rfl rfl rfl ?_
  refine t_l fX10_slips_43 rfl rfl rfl rfl ?_
  obtain ⟨V29, u30, e31, h⟩ := bd_some h
  refine tl_X10_slips_45 hr0  (fun e32 => ?_) e31
  exact tj_X10_slips_J108 hr0   h

theorem tj_X10_slips_J40 {X : mX} {n z : Nat} {G : mG} {r0 : Nat} (hr0 : is10 G r0) {x1 x2 : Int} {j3 j4 : Option Value} {V V' : mV} {v : Int} (h : F_X10_slips_J40 G r0 x1 x2 V = some (V', v)) : T X (2) 249 40 [some (.ref r0), some (.int (iI x1)), some (.int (iI x2)), j3, j4] [] n z G V (qi n z G V' v) := by
  unfold F_X10_slips_J40 at h
  refine t_s fX10_slips_40 rfl rfl rfl ?_
  exact tj_X10_slips_J41 hr0   h

theorem q_X10_slips {X : mX} {n z : Nat} {G : mG} {r0 : Nat} (hr0 : is10 G r0) {x1 : Int} {V V' : mV} {v : Int} (h : F_X10_slips G r0 x1 V = some (V', v)) : Rn X (2) 249 [.ref r0, .int (iI x1)] n z G V n z G V' (some (.int (iI v))) := by
  refine qi_toR (v := v) (L := [some (.ref r0), some (.int (iI x1)), none, none, none]) rfl ?_
  unfold F_X10_slips at h
  refine t_l fX10_slips_0 rfl rfl rfl rfl ?_
  refine k9_gi fX10_slips_1 (hr0).1 kg_10_1 ?_
  replace h := lt_some h
  refine t_l fX10_slips_4 rfl rfl rfl rfl ?_
  refine t_l fX10_slips_5 rfl rfl rfl rfl ?_
  refine t_s fX10_slips_6 rfl rfl rfl ?_
  refine k9_pi fX10_slips_7 (hr0).1 kp_10_1 ?_
  replace h := lt_some h
  refine t_l fX10_slips_10 rfl rfl rfl rfl ?_
  refine t_l fX10_slips_11 rfl rfl rfl rfl ?_
  obtain ⟨V3, v4, e5, h⟩ := bd_some h
  refine kcX10_isPerson fX10_slips_12 (hr0).1 rfl (q_X10_isPerson (hr0) e5) (by decide) ?_
  obtain ⟨g7, h⟩ := gd_some h
  refine k9_if_eq fX10_slips_15 rfl g7 (fun c6 => ?_) (fun c6 => ?_)
  · replace h := ite_t (c6) h
    exact tj_X10_slips_J40 hr0   h
  · replace h := ite_f (c6) h
    refine t_l fX10_slips_18 rfl rfl rfl rfl ?_
    obtain ⟨g53, h⟩ := gd_some h
    refine k9_if_le fX10_slips_19 rfl g53 (fun c52 => ?_) (fun c52 => ?_)
    · replace h := ite_t (c52) h
      exact tj_X10_slips_J40 hr0   h
    · replace h := ite_f (c52) h
      refine t_l fX10_slips_22 rfl rfl rfl rfl ?_
      refine t_s fX10_slips_23 rfl rfl rfl ?_
      refine k9_irem fX10_slips_24 g53 ⟨by decide, by decide⟩ (by decide) ?_
      obtain ⟨g55, h⟩ := gd_some h
      refine k9_if_ne fX10_slips_25 rfl g55 (fun c54 => ?_) (fun c54 => ?_)
      · replace h := ite_f (c54) h
        exact tj_X10_slips_J40 hr0   h
      · replace h := ite_t (Classical.not_not.mp c54) h
        refine t_l fX10_slips_28 rfl rfl rfl rfl ?_
        refine t_s fX10_slips_29 rfl rfl rfl ?_
        refine k9_idiv fX10_slips_30 g53 ⟨by decide, by decide⟩ (by decide) ?_
        refine t_s fX10_slips_31 rfl rfl rfl ?_
        obtain ⟨g57, h⟩ := gd_some h
        refine k9_ic_gt fX10_slips_33 rfl g57 ⟨by decide, by decide⟩ (fun c56 => ?_) (fun c56 => ?_)
        · replace h := ite_t (c56) h
          exact tj_X10_slips_J40 hr0   h
        · replace h := ite_f (c56) h
          refine t_s fX10_slips_36 rfl rfl rfl ?_
          refine k9_goto fX10_slips_37 rfl ?_
          exact tj_X10_slips_J41 hr0   h

theorem tj_X10_isAsSlips_J52_2 {X : mX} {n z : Nat} {G : mG} {r0 : Nat} (hr0 : is10 G r0) {x1 x2 s0 s1 : Int} {V V' : mV} {q : Nat × Int} {Q : Nat → Nat → mG → mV → Option Value → Prop} (h0 : q.1 = 0 → T X (5) 250 2 [some (.ref r0), some (.int (iI x1)), some (.int (iI q.2))] [] n z G V' Q) (h1 : q.1 = 1 → T X (5) 250 55 [some (.ref r0), some (.int (iI x1)), some (.int (iI q.2))] [] n z G V' Q) (h2 : q.1 = 2 → T X (5) 250 63 [some (.ref r0), some (.int (iI x1)), some (.int (iI q.2))] [] n z G V' Q) (h : F_X10_isAsSlips_J52_2 G r0 x1 x2 s0 s1 V = some (V', q)) : T X (5) 250 52 [some (.ref r0), some (.int (iI x1)), some (.int (iI x2))] [.int (iI s1), .int (iI s0)] n z G V Q := by
  unfold F_X10_isAsSlips_J52_2 at h
  obtain ⟨g13, h⟩ := gd_some h
  obtain ⟨g14, h⟩ := gd_some h
  refine k9_ic_eq fX10_isAsSlips_52 rfl g13 g14 (fun c12 => ?_) (fun c12 => ?_)
  · replace h := ite_t (c12) h
    replace h := lt_some h
    refine k9_iinc fX10_isAsSlips_57 rfl (Nat.le_of_ble_eq_true rfl) rfl ?_
    refine k9_goto fX10_isAsSlips_60 rfl ?_
    cases h
    exact h0 rfl
  · replace h := ite_f (c12) h
    cases h
    exact h1 rfl

theorem tb_X10_isAsSlips_2 {X : mX} {n z : Nat} {G : mG} {r0 : Nat} (hr0 : is10 G r0) {x1 x2 : Int} {V V' : mV} {q : Nat × Int} {Q : Nat → Nat → mG → mV → Option Value → Prop} (h0 : q.1 = 0 → T X (5) 250 2 [some (.ref r0), some (.int (iI x1)), some (.int (iI q.2))] [] n z G V' Q) (h1 : q.1 = 1 → T X (5) 250 55 [some (.ref r0), some (.int (iI x1)), some (.int (iI q.2))] [] n z G V' Q) (h2 : q.1 = 2 → T X (5) 250 63 [some (.ref r0), some (.int (iI x1)), some (.int (iI q.2))] [] n z G V' Q) (h : B_X10_isAsSlips_2 G r0 x1 x2 V = some (V', q)) : T X (5) 250 2 [some (.ref r0), some (.int (iI x1)), some (.int (iI x2))] [] n z G V Q := by
  unfold B_X10_isAsSlips_2 at h
  refine t_l fX10_isAsSlips_2 rfl rfl rfl rfl ?_
  refine t_s fX10_isAsSlips_3 rfl rfl rfl ?_
  refine t_l fX10_isAsSlips_4 rfl rfl rfl rfl ?_
  refine k9_gi fX10_isAsSlips_5 (hr0).1 kg_10_72 ?_
  refine k9_imul fX10_isAsSlips_8 ?_
  obtain ⟨g2, h⟩ := gd_some h
  obtain ⟨g3, h⟩ := gd_some h
  refine k9_ic_ge fX10_isAsSlips_9 rfl g2 g3 (fun c1 => ?_) (fun c1 => ?_)
  · replace h := ite_t (c1) h
    cases h
    exact h2 rfl
  · replace h := ite_f (c1) h
    refine t_l fX10_isAsSlips_12 rfl rfl rfl rfl ?_
    refine t_l fX10_isAsSlips_13 rfl rfl rfl rfl ?_
    refine t_l fX10_isAsSlips_14 rfl rfl rfl rfl ?_
    refine k9_gi fX10_isAsSlips_15 (hr0).1 kg_10_73 ?_
    refine t_l fX10_isAsSlips_18 rfl rfl rfl rfl ?_
    refine k9_gr fX10_isAsSlips_19 (hr0).1 kg_10_74 (s10_74r hr0) ?_
    refine t_l fX10_isAsSlips_22 rfl rfl rfl rfl ?_
    refine t_s fX10_isAsSlips_23 rfl rfl rfl ?_
    refine k9_iadd fX10_isAsSlips_24 ?_
    obtain ⟨g4, h⟩ := gd_some h
    refine k9_ia fX10_isAsSlips_25 (s10_74s hr0) g4.1 g4.2.1 g4.2.2 ?_
    refine t_l fX10_isAsSlips_26 rfl rfl rfl rfl ?_
    refine k9_gr fX10_isAsSlips_27 (hr0).1 kg_10_74 (s10_74r hr0) ?_
    refine t_l fX10_isAsSlips_30 rfl rfl rfl rfl ?_
    obtain ⟨g5, h⟩ := gd_some h
    refine k9_ia fX10_isAsSlips_31 (s10_74s hr0) g5.1 g5.2.1 g5.2.2 ?_
    obtain ⟨V6, v7, e8, h⟩ := bd_some h
    refine kcX10_canDo fX10_isAsSlips_32 (hr0).1 rfl (q_X10_canDo (hr0) e8) (by decide) ?_
    refine t_l fX10_isAsSlips_35 rfl rfl rfl rfl ?_
    refine k9_gr fX10_isAsSlips_36 (hr0).1 kg_10_74 (s10_74r hr0) ?_
    refine t_l fX10_isAsSlips_39 rfl rfl rfl rfl ?_
    refine t_s fX10_isAsSlips_40 rfl rfl rfl ?_
    refine k9_iadd fX10_isAsSlips_41 ?_
    obtain ⟨g9, h⟩ := gd_some h
    refine k9_ia fX10_isAsSlips_42 (s10_74s hr0) g9.1 g9.2.1 g9.2.2 ?_
    refine t_s fX10_isAsSlips_43 rfl rfl rfl ?_
    obtain ⟨g11, h⟩ := gd_some h
    refine k9_ic_ne fX10_isAsSlips_44 rfl g11 ⟨by decide, by decide⟩ (fun c10 => ?_) (fun c10 => ?_)
    · replace h := ite_f (c10) h
      refine t_s fX10_isAsSlips_51 rfl rfl rfl ?_
      exact tj_X10_isAsSlips_J52_2 hr0  h0 h1 h2 h
    · replace h := ite_t (Classical.not_not.mp c10) h
      refine t_s fX10_isAsSlips_47 rfl rfl rfl ?_
      refine k9_goto fX10_isAsSlips_48 rfl ?_
      exact tj_X10_isAsSlips_J52_2 hr0  h0 h1 h2 h

theorem tl_X10_isAsSlips_2 {X : mX} {n z : Nat} {G : mG} {r0 : Nat} (hr0 : is10 G r0) {x1 x2 : Int} {V V' : mV} {fu : Nat} {q : Nat × Int} {Q : Nat → Nat → mG → mV → Option Value → Prop} (k1 : q.1 = 1 → T X (5) 250 55 [some (.ref r0), some (.int (iI x1)), some (.int (iI q.2))] [] n z G V' Q) (k2 : q.1 = 2 → T X (5) 250 63 [some (.ref r0), some (.int (iI x1)), some (.int (iI q.2))] [] n z G V' Q) (h : lp (fun (s : Int) V => B_X10_isAsSlips_2 G r0 x1 s V) fu x2 V = some (V', q)) : T X (5) 250 2 [some (.ref r0), some (.int (iI x1)), some (.int (iI x2))] [] n z G V Q :=
  lp_go (P0 := fun s V => T X (5) 250 2 [some (.ref r0), some (.int (iI x1)), some (.int (iI s))] [] n z G V Q) (PE := fun t s V => (t = 1 → T X (5) 250 55 [some (.ref r0), some (.int (iI x1)), some (.int (iI s))] [] n z G V Q) ∧ (t = 2 → T X (5) 250 63 [some (.ref r0), some (.int (iI x1)), some (.int (iI s))] [] n z G V Q)) (fun s V V' q hb h0 h1 => tb_X10_isAsSlips_2 hr0  h0 (fun e => (h1 (by omega)).1 e) (fun e => (h1 (by omega)).2 e) hb) fu x2 V V' q h ⟨k1, k2⟩

theorem q_X10_isAsSlips {X : mX} {n z : Nat} {G : mG} {r0 : Nat} (hr0 : is10 G r0) {x1 : Int} {V V' : mV} {v : Int} (h : F_X10_isAsSlips G r0 x1 V = some (V', v)) : Rn X (5) 250 [.ref r0, .int (iI x1)] n z G V n z G V' (some (.int (iI v))) := by
  refine qi_toR (v := v) (L := [some (.ref r0), some (.int (iI x1)), none]) rfl ?_
  unfold F_X10_isAsSlips at h
  refine t_s fX10_isAsSlips_0 rfl rfl rfl ?_
  refine t_l fX10_isAsSlips_1 rfl rfl rfl rfl ?_
  obtain ⟨V16, u17, e18, h⟩ := bd_some h
  refine tl_X10_isAsSlips_2 hr0  (fun e19 => ?_) (fun e19 => ?_) e18
  · replace h := ite_t e19 h
    refine t_s fX10_isAsSlips_55 rfl rfl rfl ?_
    refine t_ret fX10_isAsSlips_56 (rX10_isAsSlips _ (by decide)) ?_
    exact qf_i h
  · replace h := ite_f (by omega) h
    refine t_s fX10_isAsSlips_63 rfl rfl rfl ?_
    refine t_ret fX10_isAsSlips_64 (rX10_isAsSlips _ (by decide)) ?_
    exact qf_i h

theorem tb_X10_who_13 {X : mX} {n z : Nat} {G : mG} {r0 : Nat} (hr0 : is10 G r0) {x1 x2 : Int} {V V' : mV} {q : Nat × Int × Int} {Q : Nat → Nat → mG → mV → Option Value → Prop} (h0 : q.1 = 0 → T X (6) 251 13 [some (.ref r0), some (.int (iI q.2.1)), some (.int (iI q.2.2))] [] n z G V' Q) (h1 : q.1 = 1 → T X (6) 251 41 [some (.ref r0), some (.int (iI q.2.1)), some (.int (iI q.2.2))] [] n z G V' Q) (h : B_X10_who_13 G r0 x1 x2 V = some (V', q)) : T X (6) 251 13 [some (.ref r0), some (.int (iI x1)), some (.int (iI x2))] [] n z G V Q := by
  unfold B_X10_who_13 at h
  refine t_l fX10_who_13 rfl rfl rfl rfl ?_
  refine t_l fX10_who_14 rfl rfl rfl rfl ?_
  obtain ⟨V3, v4, e5, h⟩ := bd_some h
  refine kcX10_peopleMany fX10_who_15 (hr0).1 rfl (q_X10_peopleMany (hr0) e5) (by decide) ?_
  obtain ⟨g7, h⟩ := gd_some h
  obtain ⟨g8, h⟩ := gd_some h
  refine k9_ic_ge fX10_who_18 rfl g7 g8 (fun c6 => ?_) (fun c6 => ?_)
  · replace h := ite_t (c6) h
    cases h
    exact h1 rfl
  · replace h := ite_f (c6) h
    refine t_l fX10_who_21 rfl rfl rfl rfl ?_
    refine t_l fX10_who_22 rfl rfl rfl rfl ?_
    obtain ⟨V9, v10, e11, h⟩ := bd_some h
    refine kcX10_isAsSlips fX10_who_23 (hr0).1 rfl (q_X10_isAsSlips (hr0) e11) (by decide) ?_
    obtain ⟨g13, h⟩ := gd_some h
    refine k9_if_eq fX10_who_26 rfl g13 (fun c12 => ?_) (fun c12 => ?_)
    · replace h := ite_t (c12) h
      replace h := lt_some h
      refine k9_iinc fX10_who_35 rfl (Nat.le_of_ble_eq_true rfl) rfl ?_
      refine k9_goto fX10_who_38 rfl ?_
      cases h
      exact h0 rfl
    · replace h := ite_f (c12) h
      refine t_l fX10_who_29 rfl rfl rfl rfl ?_
      refine t_s fX10_who_30 rfl rfl rfl ?_
      refine t_l fX10_who_31 rfl rfl rfl rfl ?_
      obtain ⟨g15, h⟩ := gd_some h
      refine k8_ishl fX10_who_32 g15 ?_
      obtain ⟨g16, h⟩ := gd_some h
      refine k8_ior fX10_who_33 g16 ?_
      replace h := lt_some h
      refine t_l fX10_who_34 rfl rfl rfl rfl ?_
      replace h := lt_some h
      refine k9_iinc fX10_who_35 rfl (Nat.le_of_ble_eq_true rfl) rfl ?_
      refine k9_goto fX10_who_38 rfl ?_
      cases h
      exact h0 rfl

theorem tl_X10_who_13 {X : mX} {n z : Nat} {G : mG} {r0 : Nat} (hr0 : is10 G r0) {x1 x2 : Int} {V V' : mV} {fu : Nat} {q : Nat × Int × Int} {Q : Nat → Nat → mG → mV → Option Value → Prop} (k1 : q.1 = 1 → T X (6) 251 41 [some (.ref r0), some (.int (iI q.2.1)), some (.int (iI q.2.2))] [] n z G V' Q) (h : lp (fun (s : Int × Int) V => B_X10_who_13 G r0 s.1 s.2 V) fu (x1, x2) V = some (V', q)) : T X (6) 251 13 [some (.ref r0), some (.int (iI x1)), some (.int (iI x2))] [] n z G V Q :=
  lp_go (P0 := fun s V => T X (6) 251 13 [some (.ref r0), some (.int (iI s.1)), some (.int (iI s.2))] [] n z G V Q) (PE := fun t s V => (t = 1 → T X (6) 251 41 [some (.ref r0), some (.int (iI s.1)), some (.int (iI s.2))] [] n z G V Q)) (fun s V V' q hb h0 h1 => tb_X10_who_13 hr0  h0 (fun e => (h1 (by omega)) e) hb) fu (x1, x2) V V' q h k1

theorem q_X10_who {X : mX} {n z : Nat} {G : mG} {r0 : Nat} (hr0 : is10 G r0) {V V' : mV} {v : Int} (h : F_X10_who G r0 V = some (V', v)) : Rn X (6) 251 [.ref r0] n z G V n z G V' (some (.int (iI v))) := by
  refine qi_toR (v := v) (L := [some (.ref r0), none, none]) rfl ?_
  unfold F_X10_who at h
  refine t_l fX10_who_0 rfl rfl rfl rfl ?_
  refine k9_gi fX10_who_1 (hr0).1 kg_10_72 ?_
  obtain ⟨g2, h⟩ := gd_some h
  refine k9_if_ne fX10_who_4 rfl g2 (fun c1 => ?_) (fun c1 => ?_)
  · replace h := ite_f (c1) h
    refine t_s fX10_who_9 rfl rfl rfl ?_
    refine t_l fX10_who_10 rfl rfl rfl rfl ?_
    refine t_s fX10_who_11 rfl rfl rfl ?_
    refine t_l fX10_who_12 rfl rfl rfl rfl ?_
    obtain ⟨V19, u20, e21, h⟩ := bd_some h
    refine tl_X10_who_13 hr0  (fun e22 => ?_) e21
    refine t_l fX10_who_41 rfl rfl rfl rfl ?_
    refine t_ret fX10_who_42 rX10_who ?_
    exact qf_i h
  · replace h := ite_t (Classical.not_not.mp c1) h
    refine t_s fX10_who_7 rfl rfl rfl ?_
    refine t_ret fX10_who_8 rX10_who ?_
    exact qf_i h

theorem q_X10_qOf {X : mX} {n z : Nat} {G : mG} {r0 : Nat} (hr0 : is10 G r0) {x1 x2 x4 : Int} {V V' : mV} {v : Int} (h : F_X10_qOf G r0 x1 x2 x4 V = some (V', v)) : Rn X (1) 276 [.ref r0, .int (iI x1), .long (lI x2), .int (iI x4)] n z G V n z G V' (some (.long (lI v))) := by
  refine qj_toR (v := v) (L := [some (.ref r0), some (.int (iI x1)), some (.long (lI x2)), none, some (.int (iI x4))]) rfl ?_
  unfold F_X10_qOf at h
  refine t_l fX10_qOf_0 rfl rfl rfl rfl ?_
  obtain ⟨g1, h⟩ := gd_some h
  refine k8_lsw fX10_qOf_1 rfl ?_
  refine t_l fX10_qOf_12 rfl rfl rfl rfl ?_
  refine t_s fX10_qOf_13 rfl rfl rfl ?_
  refine t_l fX10_qOf_14 rfl rfl rfl rfl ?_
  obtain ⟨V2, v3, e4, h⟩ := bd_some h
  refine kcX10_peopleMany fX10_qOf_15 (hr0).1 rfl (q_X10_peopleMany (hr0) e4) (by decide) ?_
  refine t_s fX10_qOf_18 rfl rfl rfl ?_
  refine k9_isub fX10_qOf_19 ?_
  obtain ⟨g5, h⟩ := gd_some h
  refine k9_i2l fX10_qOf_20 g5 ?_
  obtain ⟨V6, v7, e8, h⟩ := bd_some h
  refine kcX10_isIn fX10_qOf_21 rfl (q_X10_isIn  e8) (by decide) ?_
  obtain ⟨g10, h⟩ := gd_some h
  refine k9_if_eq fX10_qOf_24 rfl g10 (fun c9 => ?_) (fun c9 => ?_)
  · replace h := ite_t (c9) h
    refine t_s fX10_qOf_41 rfl rfl rfl ?_
    refine t_ret fX10_qOf_42 rX10_qOf ?_
    exact qf_j h
  · replace h := ite_f (c9) h
    refine t_l fX10_qOf_27 rfl rfl rfl rfl ?_
    refine t_l fX10_qOf_28 rfl rfl rfl rfl ?_
    refine k9_gi fX10_qOf_29 (hr0).1 kg_10_58 ?_
    refine t_l fX10_qOf_32 rfl rfl rfl rfl ?_
    refine k9_l2i fX10_qOf_33 ?_
    obtain ⟨V11, v12, e13, h⟩ := bd_some h
    refine kcX10_pointsOf fX10_qOf_34 (hr0).1 rfl (q_X10_pointsOf (hr0) e13) (by decide) ?_
    obtain ⟨g14, h⟩ := gd_some h
    refine k9_i2l fX10_qOf_37 g14 ?_
    refine k9_goto fX10_qOf_38 rfl ?_
    refine t_ret fX10_qOf_42 rX10_qOf ?_
    exact qf_j h

theorem tb_X10_qTold_7 {X : mX} {n z : Nat} {G : mG} {r0 : Nat} (hr0 : is10 G r0) {x1 x2 : Int} {j3 : Option Value} {V V' : mV} {q : Nat × Int} {Q : Nat → Nat → mG → mV → Option Value → Prop} (h0 : q.1 = 0 → ∀ j3 : Option Value, T X (2) 277 7 [some (.ref r0), some (.int (iI x1)), some (.int (iI q.2)), j3] [] n z G V' Q) (h1 : q.1 = 1 → ∀ j3 : Option Value, T X (2) 277 168 [some (.ref r0), some (.int (iI x1)), some (.int (iI q.2)), j3] [] n z G V' Q) (h : B_X10_qTold_7 G r0 x1 x2 V = some (V', q)) : T X (2) 277 7 [some (.ref r0), some (.int (iI x1)), some (.int (iI x2)), j3] [] n z G V Q := by
  unfold B_X10_qTold_7 at h
  refine t_l fX10_qTold_7 rfl rfl rfl rfl ?_
  refine t_l fX10_qTold_8 rfl rfl rfl rfl ?_
  refine k9_gi fX10_qTold_9 (hr0).1 kg_10_98 ?_
  obtain ⟨g3, h⟩ := gd_some h
  obtain ⟨g4, h⟩ := gd_some h
  refine k9_ic_ge fX10_qTold_12 rfl g3 g4 (fun c2 => ?_) (fun c2 => ?_)
  · replace h := ite_t (c2) h
    cases h
    exact h1 rfl _
  · replace h := ite_f (c2) h
    refine t_l fX10_qTold_15 rfl rfl rfl rfl ?_
    refine k9_gr fX10_qTold_16 (hr0).1 kg_10_97 (s10_97r hr0) ?_
    refine t_l fX10_qTold_19 rfl rfl rfl rfl ?_
    obtain ⟨g5, h⟩ := gd_some h
    refine k9_ia fX10_qTold_20 (s10_97s hr0) g5.1 g5.2.1 g5.2.2 ?_
    replace h := lt_some h
    refine t_l fX10_qTold_21 rfl rfl rfl rfl ?_
    refine t_l fX10_qTold_22 rfl rfl rfl rfl ?_
    refine t_s fX10_qTold_23 rfl rfl rfl ?_
    obtain ⟨g8, h⟩ := gd_some h
    refine k9_ic_lt fX10_qTold_26 rfl g8 ⟨by decide, by decide⟩ (fun c7 => ?_) (fun c7 => ?_)
    · replace h := ite_t (c7) h
      refine t_l fX10_qTold_42 rfl rfl rfl rfl ?_
      refine t_s fX10_qTold_43 rfl rfl rfl ?_
      refine k9_ic_lt fX10_qTold_45 rfl g8 ⟨by decide, by decide⟩ (fun c9 => ?_) (fun c9 => ?_)
      · replace h := ite_t (c9) h
        refine t_l fX10_qTold_85 rfl rfl rfl rfl ?_
        refine t_s fX10_qTold_86 rfl rfl rfl ?_
        refine k9_ic_lt fX10_qTold_88 rfl g8 ⟨by decide, by decide⟩ (fun c10 => ?_) (fun c10 => ?_)
        · replace h := ite_t (c10) h
          refine t_l fX10_qTold_110 rfl rfl rfl rfl ?_
          refine t_s fX10_qTold_111 rfl rfl rfl ?_
          refine k9_ic_ne fX10_qTold_113 rfl g8 ⟨by decide, by decide⟩ (fun c11 => ?_) (fun c11 => ?_)
          · replace h := ite_f (c11) h
            refine t_l fX10_qTold_124 rfl rfl rfl rfl ?_
            refine t_s fX10_qTold_125 rfl rfl rfl ?_
            refine k9_ic_ne fX10_qTold_127 rfl g8 ⟨by decide, by decide⟩ (fun c12 => ?_) (fun c12 => ?_)
            · replace h := ite_f (c12) h
              refine t_l fX10_qTold_157 rfl rfl rfl rfl ?_
              refine t_l fX10_qTold_158 rfl rfl rfl rfl ?_
              obtain ⟨V13, v14, e15, h⟩ := bd_some h
              refine kcX10_qJoins fX10_qTold_159 (hr0).1 rfl (q_X10_qJoins (hr0) e15) (by decide) ?_
              replace h := lt_some h
              refine k9_iinc fX10_qTold_162 rfl (Nat.le_of_ble_eq_true rfl) rfl ?_
              refine k9_goto fX10_qTold_165 rfl ?_
              cases h
              exact h0 rfl _
            · replace h := ite_t (Classical.not_not.mp c12) h
              refine t_l fX10_qTold_130 rfl rfl rfl rfl ?_
              refine k9_gr fX10_qTold_131 (hr0).1 kg_10_103 (s10_103r hr0) ?_
              refine t_l fX10_qTold_134 rfl rfl rfl rfl ?_
              refine k9_gi fX10_qTold_135 (hr0).1 kg_10_104 ?_
              refine t_s fX10_qTold_138 rfl rfl rfl ?_
              refine k9_isub fX10_qTold_139 ?_
              refine t_s fX10_qTold_140 rfl rfl rfl ?_
              refine t_l fX10_qTold_141 rfl rfl rfl rfl ?_
              refine k9_gr fX10_qTold_142 (hr0).1 kg_10_103 (s10_103r hr0) ?_
              refine t_l fX10_qTold_145 rfl rfl rfl rfl ?_
              refine k9_gi fX10_qTold_146 (hr0).1 kg_10_104 ?_
              refine t_s fX10_qTold_149 rfl rfl rfl ?_
              refine k9_isub fX10_qTold_150 ?_
              obtain ⟨g17, h⟩ := gd_some h
              refine k9_la fX10_qTold_151 (s10_103s hr0) g17.1 g17.2.1 g17.2.2 ?_
              refine k9_lsub fX10_qTold_152 ?_
              refine k9_ls fX10_qTold_153 (s10_103s hr0) g17.1 g17.2.1 g17.2.2 ?_
              replace h := lt_some h
              refine k9_goto fX10_qTold_154 rfl ?_
              replace h := lt_some h
              refine k9_iinc fX10_qTold_162 rfl (Nat.le_of_ble_eq_true rfl) rfl ?_
              refine k9_goto fX10_qTold_165 rfl ?_
              cases h
              exact h0 rfl _
          · replace h := ite_t (Classical.not_not.mp c11) h
            refine t_l fX10_qTold_116 rfl rfl rfl rfl ?_
            refine t_s fX10_qTold_117 rfl rfl rfl ?_
            obtain ⟨V20, v21, e22, h⟩ := bd_some h
            refine kcX10_qPuts fX10_qTold_118 (hr0).1 rfl (q_X10_qPuts (hr0) e22) (by decide) ?_
            refine k9_goto fX10_qTold_121 rfl ?_
            replace h := lt_some h
            refine k9_iinc fX10_qTold_162 rfl (Nat.le_of_ble_eq_true rfl) rfl ?_
            refine k9_goto fX10_qTold_165 rfl ?_
            cases h
            exact h0 rfl _
        · replace h := ite_f (c10) h
          refine t_l fX10_qTold_91 rfl rfl rfl rfl ?_
          refine t_l fX10_qTold_92 rfl rfl rfl rfl ?_
          refine t_l fX10_qTold_93 rfl rfl rfl rfl ?_
          refine t_s fX10_qTold_94 rfl rfl rfl ?_
          refine k9_isub fX10_qTold_96 ?_
          refine t_l fX10_qTold_97 rfl rfl rfl rfl ?_
          obtain ⟨V24, v25, e26, h⟩ := bd_some h
          refine kcX10_qPartOf fX10_qTold_98 (hr0).1 rfl (q_X10_qPartOf (hr0) e26) (by decide) ?_
          obtain ⟨V27, v28, e29, h⟩ := bd_some h
          refine kcX10_qClip fX10_qTold_101 rfl (q_X10_qClip  e29) (by decide) ?_
          obtain ⟨V30, v31, e32, h⟩ := bd_some h
          refine kcX10_qPuts fX10_qTold_104 (hr0).1 rfl (q_X10_qPuts (hr0) e32) (by decide) ?_
          refine k9_goto fX10_qTold_107 rfl ?_
          replace h := lt_some h
          refine k9_iinc fX10_qTold_162 rfl (Nat.le_of_ble_eq_true rfl) rfl ?_
          refine k9_goto fX10_qTold_165 rfl ?_
          cases h
          exact h0 rfl _
      · replace h := ite_f (c9) h
        refine t_l fX10_qTold_48 rfl rfl rfl rfl ?_
        refine k9_gr fX10_qTold_49 (hr0).1 kg_10_103 (s10_103r hr0) ?_
        refine t_l fX10_qTold_52 rfl rfl rfl rfl ?_
        refine k9_gi fX10_qTold_53 (hr0).1 kg_10_104 ?_
        refine t_s fX10_qTold_56 rfl rfl rfl ?_
        refine k9_isub fX10_qTold_57 ?_
        refine t_l fX10_qTold_58 rfl rfl rfl rfl ?_
        refine t_l fX10_qTold_59 rfl rfl rfl rfl ?_
        refine t_s fX10_qTold_60 rfl rfl rfl ?_
        refine k9_isub fX10_qTold_62 ?_
        refine t_l fX10_qTold_63 rfl rfl rfl rfl ?_
        refine k9_gr fX10_qTold_64 (hr0).1 kg_10_103 (s10_103r hr0) ?_
        refine t_l fX10_qTold_67 rfl rfl rfl rfl ?_
        refine k9_gi fX10_qTold_68 (hr0).1 kg_10_104 ?_
        refine t_s fX10_qTold_71 rfl rfl rfl ?_
        refine k9_isub fX10_qTold_72 ?_
        obtain ⟨g34, h⟩ := gd_some h
        refine k9_la fX10_qTold_73 (s10_103s hr0) g34.1 g34.2.1 g34.2.2 ?_
        refine t_l fX10_qTold_74 rfl rfl rfl rfl ?_
        obtain ⟨V35, v36, e37, h⟩ := bd_some h
        refine kcX10_qOf fX10_qTold_75 (hr0).1 rfl (q_X10_qOf (hr0) e37) (by decide) ?_
        obtain ⟨V38, v39, e40, h⟩ := bd_some h
        refine kcX10_qClip fX10_qTold_78 rfl (q_X10_qClip  e40) (by decide) ?_
        refine k9_ls fX10_qTold_81 (s10_103s hr0) g34.1 g34.2.1 g34.2.2 ?_
        replace h := lt_some h
        refine k9_goto fX10_qTold_82 rfl ?_
        replace h := lt_some h
        refine k9_iinc fX10_qTold_162 rfl (Nat.le_of_ble_eq_true rfl) rfl ?_
        refine k9_goto fX10_qTold_165 rfl ?_
        cases h
        exact h0 rfl _
    · replace h := ite_f (c7) h
      refine t_l fX10_qTold_29 rfl rfl rfl rfl ?_
      refine t_l fX10_qTold_30 rfl rfl rfl rfl ?_
      refine t_s fX10_qTold_31 rfl rfl rfl ?_
      refine k9_isub fX10_qTold_34 ?_
      obtain ⟨g43, h⟩ := gd_some h
      refine k9_i2l fX10_qTold_35 g43 ?_
      obtain ⟨V44, v45, e46, h⟩ := bd_some h
      refine kcX10_qPuts fX10_qTold_36 (hr0).1 rfl (q_X10_qPuts (hr0) e46) (by decide) ?_
      refine k9_goto fX10_qTold_39 rfl ?_
      replace h := lt_some h
      refine k9_iinc fX10_qTold_162 rfl (Nat.le_of_ble_eq_true rfl) rfl ?_
      refine k9_goto fX10_qTold_165 rfl ?_
      cases h
      exact h0 rfl _

theorem tl_X10_qTold_7 {X : mX} {n z : Nat} {G : mG} {r0 : Nat} (hr0 : is10 G r0) {x1 x2 : Int} {j3 : Option Value} {V V' : mV} {fu : Nat} {q : Nat × Int} {Q : Nat → Nat → mG → mV → Option Value → Prop} (k1 : q.1 = 1 → ∀ j3 : Option Value, T X (2) 277 168 [some (.ref r0), some (.int (iI x1)), some (.int (iI q.2)), j3] [] n z G V' Q) (h : lp (fun (s : Int) V => B_X10_qTold_7 G r0 x1 s V) fu x2 V = some (V', q)) : T X (2) 277 7 [some (.ref r0), some (.int (iI x1)), some (.int (iI x2)), j3] [] n z G V Q :=
  lp_go (P0 := fun s V => ∀ j3 : Option Value, T X (2) 277 7 [some (.ref r0), some (.int (iI x1)), some (.int (iI s)), j3] [] n z G V Q) (PE := fun t s V => (t = 1 → ∀ j3 : Option Value, T X (2) 277 168 [some (.ref r0), some (.int (iI x1)), some (.int (iI s)), j3] [] n z G V Q)) (fun s V V' q hb h0 h1 => fun _ => tb_X10_qTold_7 hr0  h0 (fun e => (h1 (by omega)) e) hb) fu x2 V V' q h k1 _

theorem q_X10_qTold {X : mX} {n z : Nat} {G : mG} {r0 : Nat} (hr0 : is10 G r0) {x1 : Int} {V V' : mV} {v : Int} (h : F_X10_qTold G r0 x1 V = some (V', v)) : Rn X (2) 277 [.ref r0, .int (iI x1)] n z G V n z G V' (some (.long (lI v))) := by
  refine qj_toR (v := v) (L := [some (.ref r0), some (.int (iI x1)), none, none]) rfl ?_
  unfold F_X10_qTold at h
  refine t_l fX10_qTold_0 rfl rfl rfl rfl ?_
  refine t_s fX10_qTold_1 rfl rfl rfl ?_
  refine k9_pi fX10_qTold_2 (hr0).1 kp_10_104 ?_
  replace h := lt_some h
  refine t_s fX10_qTold_5 rfl rfl rfl ?_
  refine t_l fX10_qTold_6 rfl rfl rfl rfl ?_
  obtain ⟨V48, u49, e50, h⟩ := bd_some h
  refine tl_X10_qTold_7 hr0  (fun e51 j3 => ?_) e50
  refine t_l fX10_qTold_168 rfl rfl rfl rfl ?_
  refine k9_gr fX10_qTold_169 (hr0).1 kg_10_103 (s10_103r hr0) ?_
  refine t_s fX10_qTold_172 rfl rfl rfl ?_
  refine k9_la fX10_qTold_173 (s10_103s hr0) (by decide) (by decide) (by decide) ?_
  refine t_ret fX10_qTold_174 rX10_qTold ?_
  exact qf_j h

theorem tj_X10_qKind_J76 {X : mX} {n z : Nat} {G : mG} {r0 : Nat} (hr0 : is10 G r0) {s0 : Int} {j1 : Option Value} {V V' : mV} {v : Int} (h : F_X10_qKind_J76 G r0 s0 V = some (V', v)) : T X (4) 278 76 [some (.ref r0), j1] [.int (iI s0)] n z G V (qi n z G V' v) := by
  unfold F_X10_qKind_J76 at h
  refine t_l fX10_qKind_76 rfl rfl rfl rfl ?_
  refine t_l fX10_qKind_77 rfl rfl rfl rfl ?_
  refine t_s fX10_qKind_78 rfl rfl rfl ?_
  obtain ⟨g27, h⟩ := gd_some h
  refine k9_ic_ne fX10_qKind_79 rfl g27 ⟨by decide, by decide⟩ (fun c26 => ?_) (fun c26 => ?_)
  · replace h := ite_f (c26) h
    refine t_l fX10_qKind_90 rfl rfl rfl rfl ?_
    refine t_ret fX10_qKind_91 rX10_qKind ?_
    exact qf_i h
  · replace h := ite_t (Classical.not_not.mp c26) h
    refine t_l fX10_qKind_82 rfl rfl rfl rfl ?_
    refine t_l fX10_qKind_83 rfl rfl rfl rfl ?_
    refine k9_gr fX10_qKind_84 (hr0).1 kg_10_80 (s10_80r hr0) ?_
    obtain ⟨V28, v29, e30, h⟩ := bd_some h
    refine kcX10_asks fX10_qKind_87 (hr0).1 rfl rfl (q_X10_asks (hr0) (qGf (s10_80s hr0)) e30) (by decide) ?_
    refine t_l fX10_qKind_90 rfl rfl rfl rfl ?_
    refine t_ret fX10_qKind_91 rX10_qKind ?_
    exact qf_i h

theorem q_X10_qKind {X : mX} {n z : Nat} {G : mG} {r0 : Nat} (hr0 : is10 G r0) {V V' : mV} {v : Int} (h : F_X10_qKind G r0 V = some (V', v)) : Rn X (4) 278 [.ref r0] n z G V n z G V' (some (.int (iI v))) := by
  refine qi_toR (v := v) (L := [some (.ref r0), none]) rfl ?_
  unfold F_X10_qKind at h
  refine t_l fX10_qKind_0 rfl rfl rfl rfl ?_
  refine t_l fX10_qKind_1 rfl rfl rfl rfl ?_
  refine k9_gr fX10_qKind_2 (hr0).1 kg_10_75 (s10_75r hr0) ?_
  obtain ⟨V1, v2, e3, h⟩ := bd_some h
  refine kcX10_takes fX10_qKind_5 (hr0).1 rfl rfl (q_X10_takes (hr0) (qGf (s10_75s hr0)) e3) (by decide) ?_
  obtain ⟨g5, h⟩ := gd_some h
  refine k9_if_eq fX10_qKind_8 rfl g5 (fun c4 => ?_) (fun c4 => ?_)
  · replace h := ite_t (c4) h
    refine t_l fX10_qKind_15 rfl rfl rfl rfl ?_
    refine t_l fX10_qKind_16 rfl rfl rfl rfl ?_
    refine k9_gr fX10_qKind_17 (hr0).1 kg_10_76 (s10_76r hr0) ?_
    obtain ⟨V6, v7, e8, h⟩ := bd_some h
    refine kcX10_takes fX10_qKind_20 (hr0).1 rfl rfl (q_X10_takes (hr0) (qGf (s10_76s hr0)) e8) (by decide) ?_
    obtain ⟨g10, h⟩ := gd_some h
    refine k9_if_eq fX10_qKind_23 rfl g10 (fun c9 => ?_) (fun c9 => ?_)
    · replace h := ite_t (c9) h
      refine t_l fX10_qKind_30 rfl rfl rfl rfl ?_
      refine t_l fX10_qKind_31 rfl rfl rfl rfl ?_
      refine k9_gr fX10_qKind_32 (hr0).1 kg_10_77 (s10_77r hr0) ?_
      obtain ⟨V11, v12, e13, h⟩ := bd_some h
      refine kcX10_takes fX10_qKind_35 (hr0).1 rfl rfl (q_X10_takes (hr0) (qGf (s10_77s hr0)) e13) (by decide) ?_
      obtain ⟨g15, h⟩ := gd_some h
      refine k9_if_eq fX10_qKind_38 rfl g15 (fun c14 => ?_) (fun c14 => ?_)
      · replace h := ite_t (c14) h
        refine t_l fX10_qKind_45 rfl rfl rfl rfl ?_
        refine t_l fX10_qKind_46 rfl rfl rfl rfl ?_
        refine k9_gr fX10_qKind_47 (hr0).1 kg_10_78 (s10_78r hr0) ?_
        obtain ⟨V16, v17, e18, h⟩ := bd_some h
        refine kcX10_takes fX10_qKind_50 (hr0).1 rfl rfl (q_X10_takes (hr0) (qGf (s10_78s hr0)) e18) (by decide) ?_
        obtain ⟨g20, h⟩ := gd_some h
        refine k9_if_eq fX10_qKind_53 rfl g20 (fun c19 => ?_) (fun c19 => ?_)
        · replace h := ite_t (c19) h
          refine t_l fX10_qKind_60 rfl rfl rfl rfl ?_
          refine t_l fX10_qKind_61 rfl rfl rfl rfl ?_
          refine k9_gr fX10_qKind_62 (hr0).1 kg_10_79 (s10_79r hr0) ?_
          obtain ⟨V21, v22, e23, h⟩ := bd_some h
          refine kcX10_takes fX10_qKind_65 (hr0).1 rfl rfl (q_X10_takes (hr0) (qGf (s10_79s hr0)) e23) (by decide) ?_
          obtain ⟨g25, h⟩ := gd_some h
          refine k9_if_eq fX10_qKind_68 rfl g25 (fun c24 => ?_) (fun c24 => ?_)
          · replace h := ite_t (c24) h
            refine t_s fX10_qKind_75 rfl rfl rfl ?_
            exact tj_X10_qKind_J76 hr0   h
          · replace h := ite_f (c24) h
            refine t_s fX10_qKind_71 rfl rfl rfl ?_
            refine k9_goto fX10_qKind_72 rfl ?_
            exact tj_X10_qKind_J76 hr0   h
        · replace h := ite_f (c19) h
          refine t_s fX10_qKind_56 rfl rfl rfl ?_
          refine k9_goto fX10_qKind_57 rfl ?_
          exact tj_X10_qKind_J76 hr0   h
      · replace h := ite_f (c14) h
        refine t_s fX10_qKind_41 rfl rfl rfl ?_
        refine k9_goto fX10_qKind_42 rfl ?_
        exact tj_X10_qKind_J76 hr0   h
    · replace h := ite_f (c9) h
      refine t_s fX10_qKind_26 rfl rfl rfl ?_
      refine k9_goto fX10_qKind_27 rfl ?_
      exact tj_X10_qKind_J76 hr0   h
  · replace h := ite_f (c4) h
    refine t_s fX10_qKind_11 rfl rfl rfl ?_
    refine k9_goto fX10_qKind_12 rfl ?_
    exact tj_X10_qKind_J76 hr0   h

theorem tj_X10_qTakes_J128 {X : mX} {n z : Nat} {G : mG} {r0 : Nat} (hr0 : is10 G r0) {x1 x2 x4 : Int} {j5 : Option Value} {V V' : mV} {v : Int} (h : F_X10_qTakes_J128 G r0 x1 x2 x4 V = some (V', v)) : T X (0) 279 128 [some (.ref r0), some (.int (iI x1)), some (.long (lI x2)), none, some (.int (iI x4)), j5] [] n z G V (qv n z G V' v) := by
  unfold F_X10_qTakes_J128 at h
  refine t_l fX10_qTakes_128 rfl rfl rfl rfl ?_
  refine t_l fX10_qTakes_129 rfl rfl rfl rfl ?_
  refine k9_pj fX10_qTakes_130 (hr0).1 kp_10_105 ?_
  replace h := lt_some h
  refine t_l fX10_qTakes_133 rfl rfl rfl rfl ?_
  refine t_s fX10_qTakes_134 rfl rfl rfl ?_
  refine k9_pb fX10_qTakes_135 (hr0).1 kp_10_106 (by decide) ?_
  replace h := lt_some h
  refine t_ret fX10_qTakes_138 rX10_qTakes ?_
  exact qf_v h

theorem tj_X10_qTakes_J90 {X : mX} {n z : Nat} {G : mG} {r0 : Nat} (hr0 : is10 G r0) {x1 x2 x4 : Int} {j5 : Option Value} {V V' : mV} {v : Int} (h : F_X10_qTakes_J90 G r0 x1 x2 x4 V = some (V', v)) : T X (0) 279 90 [some (.ref r0), some (.int (iI x1)), some (.long (lI x2)), none, some (.int (iI x4)), j5] [] n z G V (qv n z G V' v) := by
  unfold F_X10_qTakes_J90 at h
  refine t_l fX10_qTakes_90 rfl rfl rfl rfl ?_
  refine t_s fX10_qTakes_91 rfl rfl rfl ?_
  obtain ⟨g12, h⟩ := gd_some h
  refine k9_ic_le fX10_qTakes_92 rfl g12 ⟨by decide, by decide⟩ (fun c11 => ?_) (fun c11 => ?_)
  · replace h := ite_t (c11) h
    refine t_l fX10_qTakes_133 rfl rfl rfl rfl ?_
    refine t_s fX10_qTakes_134 rfl rfl rfl ?_
    refine k9_pb fX10_qTakes_135 (hr0).1 kp_10_106 (by decide) ?_
    replace h := lt_some h
    refine t_ret fX10_qTakes_138 rX10_qTakes ?_
    exact qf_v h
  · replace h := ite_f (c11) h
    refine t_l fX10_qTakes_95 rfl rfl rfl rfl ?_
    refine k9_gi fX10_qTakes_96 (hr0).1 kg_10_106 ?_
    obtain ⟨g15, h⟩ := gd_some h
    refine k9_if_ne fX10_qTakes_99 rfl g15 (fun c14 => ?_) (fun c14 => ?_)
    · replace h := ite_f (c14) h
      exact tj_X10_qTakes_J128 hr0   h
    · replace h := ite_t (Classical.not_not.mp c14) h
      refine t_l fX10_qTakes_102 rfl rfl rfl rfl ?_
      refine t_s fX10_qTakes_103 rfl rfl rfl ?_
      refine k9_ic_ne fX10_qTakes_104 rfl g12 ⟨by decide, by decide⟩ (fun c18 => ?_) (fun c18 => ?_)
      · replace h := ite_f (c18) h
        refine t_l fX10_qTakes_119 rfl rfl rfl rfl ?_
        refine t_l fX10_qTakes_120 rfl rfl rfl rfl ?_
        refine k9_gj fX10_qTakes_121 (hr0).1 kg_10_105 ?_
        obtain ⟨g19, h⟩ := gd_some h
        obtain ⟨g20, h⟩ := gd_some h
        refine k9_lcmp fX10_qTakes_124 g19 g20 ?_
        refine k9_if_ge fX10_qTakes_125 rfl (cmp_rg _ _) (fun c21 => ?_) (fun c21 => ?_)
        · replace h := ite_t (cmp_ge.mp c21) h
          refine t_l fX10_qTakes_133 rfl rfl rfl rfl ?_
          refine t_s fX10_qTakes_134 rfl rfl rfl ?_
          refine k9_pb fX10_qTakes_135 (hr0).1 kp_10_106 (by decide) ?_
          replace h := lt_some h
          refine t_ret fX10_qTakes_138 rX10_qTakes ?_
          exact qf_v h
        · replace h := ite_f (fun q => c21 (cmp_ge.mpr q)) h
          exact tj_X10_qTakes_J128 hr0   h
      · replace h := ite_t (Classical.not_not.mp c18) h
        refine t_l fX10_qTakes_107 rfl rfl rfl rfl ?_
        refine t_l fX10_qTakes_108 rfl rfl rfl rfl ?_
        refine k9_gj fX10_qTakes_109 (hr0).1 kg_10_105 ?_
        obtain ⟨g23, h⟩ := gd_some h
        obtain ⟨g24, h⟩ := gd_some h
        refine k9_lcmp fX10_qTakes_112 g23 g24 ?_
        refine k9_if_le fX10_qTakes_113 rfl (cmp_rg _ _) (fun c25 => ?_) (fun c25 => ?_)
        · replace h := ite_t (cmp_le.mp c25) h
          refine t_l fX10_qTakes_133 rfl rfl rfl rfl ?_
          refine t_s fX10_qTakes_134 rfl rfl rfl ?_
          refine k9_pb fX10_qTakes_135 (hr0).1 kp_10_106 (by decide) ?_
          replace h := lt_some h
          refine t_ret fX10_qTakes_138 rX10_qTakes ?_
          exact qf_v h
        · replace h := ite_f (fun q => c25 (cmp_le.mpr q)) h
          refine k9_goto fX10_qTakes_116 rfl ?_
          exact tj_X10_qTakes_J128 hr0   h

theorem tj_X10_qTakes_J75 {X : mX} {n z : Nat} {G : mG} {r0 : Nat} (hr0 : is10 G r0) {x1 x2 x4 : Int} {j5 : Option Value} {V V' : mV} {v : Int} (h : F_X10_qTakes_J75 G r0 x1 x2 x4 V = some (V', v)) : T X (0) 279 75 [some (.ref r0), some (.int (iI x1)), some (.long (lI x2)), none, some (.int (iI x4)), j5] [] n z G V (qv n z G V' v) := by
  unfold F_X10_qTakes_J75 at h
  refine t_l fX10_qTakes_75 rfl rfl rfl rfl ?_
  refine t_s fX10_qTakes_76 rfl rfl rfl ?_
  obtain ⟨g10, h⟩ := gd_some h
  refine k9_ic_ne fX10_qTakes_77 rfl g10 ⟨by decide, by decide⟩ (fun c9 => ?_) (fun c9 => ?_)
  · replace h := ite_f (c9) h
    exact tj_X10_qTakes_J90 hr0   h
  · replace h := ite_t (Classical.not_not.mp c9) h
    refine t_l fX10_qTakes_80 rfl rfl rfl rfl ?_
    refine t_s fX10_qTakes_81 rfl rfl rfl ?_
    refine k9_gj fX10_qTakes_82 (hr0).1 kg_10_105 ?_
    refine t_l fX10_qTakes_85 rfl rfl rfl rfl ?_
    refine k9_ladd fX10_qTakes_86 ?_
    refine k9_pj fX10_qTakes_87 (hr0).1 kp_10_105 ?_
    replace h := lt_some h
    exact tj_X10_qTakes_J90 hr0   h

theorem tj_X10_qTakes_J55 {X : mX} {n z : Nat} {G : mG} {r0 : Nat} (hr0 : is10 G r0) {x1 x2 x4 x5 : Int} {V V' : mV} {v : Int} (h : F_X10_qTakes_J55 G r0 x1 x2 x4 x5 V = some (V', v)) : T X (0) 279 55 [some (.ref r0), some (.int (iI x1)), some (.long (lI x2)), none, some (.int (iI x4)), some (.int (iI x5))] [] n z G V (qv n z G V' v) := by
  unfold F_X10_qTakes_J55 at h
  refine t_l fX10_qTakes_55 rfl rfl rfl rfl ?_
  refine t_s fX10_qTakes_56 rfl rfl rfl ?_
  obtain ⟨g8, h⟩ := gd_some h
  refine k9_ic_ne fX10_qTakes_57 rfl g8 ⟨by decide, by decide⟩ (fun c7 => ?_) (fun c7 => ?_)
  · replace h := ite_f (c7) h
    exact tj_X10_qTakes_J75 hr0   h
  · replace h := ite_t (Classical.not_not.mp c7) h
    refine t_l fX10_qTakes_60 rfl rfl rfl rfl ?_
    obtain ⟨g29, h⟩ := gd_some h
    refine k9_if_eq fX10_qTakes_62 rfl g29 (fun c28 => ?_) (fun c28 => ?_)
    · replace h := ite_t (c28) h
      exact tj_X10_qTakes_J75 hr0   h
    · replace h := ite_f (c28) h
      refine t_l fX10_qTakes_65 rfl rfl rfl rfl ?_
      refine t_s fX10_qTakes_66 rfl rfl rfl ?_
      refine k9_gj fX10_qTakes_67 (hr0).1 kg_10_105 ?_
      refine t_s fX10_qTakes_70 rfl rfl rfl ?_
      refine k9_ladd fX10_qTakes_71 ?_
      refine k9_pj fX10_qTakes_72 (hr0).1 kp_10_105 ?_
      replace h := lt_some h
      exact tj_X10_qTakes_J75 hr0   h

theorem tj_X10_qTakes_J48 {X : mX} {n z : Nat} {G : mG} {r0 : Nat} (hr0 : is10 G r0) {x1 x2 x4 x5 : Int} {V V' : mV} {v : Int} (h : F_X10_qTakes_J48 G r0 x1 x2 x4 x5 V = some (V', v)) : T X (0) 279 48 [some (.ref r0), some (.int (iI x1)), some (.long (lI x2)), none, some (.int (iI x4)), some (.int (iI x5))] [] n z G V (qv n z G V' v) := by
  unfold F_X10_qTakes_J48 at h
  refine t_l fX10_qTakes_48 rfl rfl rfl rfl ?_
  refine t_l fX10_qTakes_49 rfl rfl rfl rfl ?_
  obtain ⟨g33, h⟩ := gd_some h
  refine k9_i2l fX10_qTakes_51 g33 ?_
  refine k9_pj fX10_qTakes_52 (hr0).1 kp_10_105 ?_
  replace h := lt_some h
  exact tj_X10_qTakes_J55 hr0   h

theorem tj_X10_qTakes_J38 {X : mX} {n z : Nat} {G : mG} {r0 : Nat} (hr0 : is10 G r0) {x1 x2 x4 x5 : Int} {V V' : mV} {v : Int} (h : F_X10_qTakes_J38 G r0 x1 x2 x4 x5 V = some (V', v)) : T X (0) 279 38 [some (.ref r0), some (.int (iI x1)), some (.long (lI x2)), none, some (.int (iI x4)), some (.int (iI x5))] [] n z G V (qv n z G V' v) := by
  unfold F_X10_qTakes_J38 at h
  refine t_l fX10_qTakes_38 rfl rfl rfl rfl ?_
  refine t_s fX10_qTakes_39 rfl rfl rfl ?_
  obtain ⟨g6, h⟩ := gd_some h
  refine k9_ic_ne fX10_qTakes_40 rfl g6 ⟨by decide, by decide⟩ (fun c5 => ?_) (fun c5 => ?_)
  · replace h := ite_f (c5) h
    exact tj_X10_qTakes_J55 hr0   h
  · replace h := ite_t (Classical.not_not.mp c5) h
    refine t_l fX10_qTakes_43 rfl rfl rfl rfl ?_
    obtain ⟨g32, h⟩ := gd_some h
    refine k9_if_eq fX10_qTakes_45 rfl g32 (fun c31 => ?_) (fun c31 => ?_)
    · replace h := ite_t (c31) h
      exact tj_X10_qTakes_J55 hr0   h
    · replace h := ite_f (c31) h
      exact tj_X10_qTakes_J48 hr0   h

theorem tj_X10_qTakes_J16 {X : mX} {n z : Nat} {G : mG} {r0 : Nat} (hr0 : is10 G r0) {x1 x2 x4 s0 : Int} {j5 : Option Value} {V V' : mV} {v : Int} (h : F_X10_qTakes_J16 G r0 x1 x2 x4 s0 V = some (V', v)) : T X (0) 279 16 [some (.ref r0), some (.int (iI x1)), some (.long (lI x2)), none, some (.int (iI x4)), j5] [.int (iI s0)] n z G V (qv n z G V' v) := by
  unfold F_X10_qTakes_J16 at h
  refine t_l fX10_qTakes_16 rfl rfl rfl rfl ?_
  refine t_l fX10_qTakes_18 rfl rfl rfl rfl ?_
  obtain ⟨g4, h⟩ := gd_some h
  refine k9_if_ne fX10_qTakes_19 rfl g4 (fun c3 => ?_) (fun c3 => ?_)
  · replace h := ite_f (c3) h
    exact tj_X10_qTakes_J38 hr0   h
  · replace h := ite_t (Classical.not_not.mp c3) h
    refine t_l fX10_qTakes_22 rfl rfl rfl rfl ?_
    obtain ⟨g36, h⟩ := gd_some h
    refine k9_if_eq fX10_qTakes_24 rfl g36 (fun c35 => ?_) (fun c35 => ?_)
    · replace h := ite_t (c35) h
      exact tj_X10_qTakes_J38 hr0   h
    · replace h := ite_f (c35) h
      refine t_l fX10_qTakes_27 rfl rfl rfl rfl ?_
      refine k9_gj fX10_qTakes_28 (hr0).1 kg_10_105 ?_
      refine t_s fX10_qTakes_31 rfl rfl rfl ?_
      obtain ⟨g37, h⟩ := gd_some h
      refine k9_lcmp fX10_qTakes_34 g37 ⟨by decide, by decide⟩ ?_
      refine k9_if_eq fX10_qTakes_35 rfl (cmp_rg _ _) (fun c38 => ?_) (fun c38 => ?_)
      · replace h := ite_t (cmp_eq.mp c38) h
        exact tj_X10_qTakes_J48 hr0   h
      · replace h := ite_f (fun q => c38 (cmp_eq.mpr q)) h
        exact tj_X10_qTakes_J38 hr0   h

theorem tj_X10_qTakes_J15 {X : mX} {n z : Nat} {G : mG} {r0 : Nat} (hr0 : is10 G r0) {x1 x2 x4 : Int} {j5 : Option Value} {V V' : mV} {v : Int} (h : F_X10_qTakes_J15 G r0 x1 x2 x4 V = some (V', v)) : T X (0) 279 15 [some (.ref r0), some (.int (iI x1)), some (.long (lI x2)), none, some (.int (iI x4)), j5] [] n z G V (qv n z G V' v) := by
  unfold F_X10_qTakes_J15 at h
  refine t_s fX10_qTakes_15 rfl rfl rfl ?_
  exact tj_X10_qTakes_J16 hr0   h

theorem q_X10_qTakes {X : mX} {n z : Nat} {G : mG} {r0 : Nat} (hr0 : is10 G r0) {x1 x2 x4 : Int} {V V' : mV} {v : Int} (h : F_X10_qTakes G r0 x1 x2 x4 V = some (V', v)) : Rn X (0) 279 [.ref r0, .int (iI x1), .long (lI x2), .int (iI x4)] n z G V n z G V' none := by
  refine qv_toR (v := v) (L := [some (.ref r0), some (.int (iI x1)), some (.long (lI x2)), none, some (.int (iI x4)), none]) rfl ?_
  unfold F_X10_qTakes at h
  refine t_l fX10_qTakes_0 rfl rfl rfl rfl ?_
  refine t_s fX10_qTakes_1 rfl rfl rfl ?_
  obtain ⟨g2, h⟩ := gd_some h
  refine k9_ic_ge fX10_qTakes_2 rfl g2 ⟨by decide, by decide⟩ (fun c1 => ?_) (fun c1 => ?_)
  · replace h := ite_t (c1) h
    exact tj_X10_qTakes_J15 hr0   h
  · replace h := ite_f (c1) h
    refine t_l fX10_qTakes_5 rfl rfl rfl rfl ?_
    refine t_s fX10_qTakes_6 rfl rfl rfl ?_
    obtain ⟨g39, h⟩ := gd_some h
    refine k9_lcmp fX10_qTakes_7 g39 ⟨by decide, by decide⟩ ?_
    refine k9_if_ne fX10_qTakes_8 rfl (cmp_rg _ _) (fun c40 => ?_) (fun c40 => ?_)
    · replace h := ite_f (fun q => c40 (cmp_eq.mpr q)) h
      exact tj_X10_qTakes_J15 hr0   h
    · replace h := ite_t (Classical.byContradiction fun q => c40 (fun w => q (cmp_eq.mp w))) h
      refine t_s fX10_qTakes_11 rfl rfl rfl ?_
      refine k9_goto fX10_qTakes_12 rfl ?_
      exact tj_X10_qTakes_J16 hr0   h

theorem tj_X10_ask_J220_188 {X : mX} {n z : Nat} {G : mG} {r0 : Nat} (hr0 : is10 G r0) {x1 x2 x3 : Int} {V V' : mV} {q : Nat × Int} {Q : Nat → Nat → mG → mV → Option Value → Prop} (h0 : q.1 = 0 → T X (9) 280 188 [some (.ref r0), some (.int (iI x1)), some (.int (iI x2)), some (.int (iI q.2))] [] n z G V' Q) (h1 : q.1 = 1 → ∀ j2 : Option Value, T X (9) 280 275 [some (.ref r0), some (.int (iI x1)), j2, some (.int (iI q.2))] [] n z G V' Q) (h : F_X10_ask_J220_188 G r0 x1 x2 x3 V = some (V', q)) : T X (9) 280 220 [some (.ref r0), some (.int (iI x1)), some (.int (iI x2)), some (.int (iI x3))] [] n z G V Q := by
  unfold F_X10_ask_J220_188 at h
  refine t_l fX10_ask_220 rfl rfl rfl rfl ?_
  refine t_l fX10_ask_221 rfl rfl rfl rfl ?_
  refine k9_pi fX10_ask_222 (hr0).1 kp_10_58 ?_
  replace h := lt_some h
  refine t_l fX10_ask_225 rfl rfl rfl rfl ?_
  refine t_l fX10_ask_226 rfl rfl rfl rfl ?_
  refine k9_gr fX10_ask_227 (hr0).1 kg_10_49 (s10_49r hr0) ?_
  refine t_s fX10_ask_230 rfl rfl rfl ?_
  refine k9_ia fX10_ask_231 (s10_49s hr0) (by decide) (by decide) (by decide) ?_
  refine t_s fX10_ask_232 rfl rfl rfl ?_
  obtain ⟨g46, h⟩ := gd_some h
  refine k9_irem fX10_ask_234 g46 ⟨by decide, by decide⟩ (by decide) ?_
  obtain ⟨g47, h⟩ := gd_some h
  refine k9_i2l fX10_ask_235 g47 ?_
  refine k9_pj fX10_ask_236 (hr0).1 kp_10_51 ?_
  replace h := lt_some h
  refine t_l fX10_ask_239 rfl rfl rfl rfl ?_
  refine t_l fX10_ask_240 rfl rfl rfl rfl ?_
  refine k9_gr fX10_ask_241 (hr0).1 kg_10_49 (s10_49r hr0) ?_
  refine t_s fX10_ask_244 rfl rfl rfl ?_
  refine k9_ia fX10_ask_245 (s10_49s hr0) (by decide) (by decide) (by decide) ?_
  refine t_s fX10_ask_246 rfl rfl rfl ?_
  obtain ⟨g49, h⟩ := gd_some h
  refine k9_idiv fX10_ask_248 g49 ⟨by decide, by decide⟩ (by decide) ?_
  obtain ⟨g50, h⟩ := gd_some h
  refine k9_i2l fX10_ask_249 g50 ?_
  refine k9_pj fX10_ask_250 (hr0).1 kp_10_52 ?_
  replace h := lt_some h
  refine t_l fX10_ask_253 rfl rfl rfl rfl ?_
  refine t_l fX10_ask_254 rfl rfl rfl rfl ?_
  refine t_l fX10_ask_255 rfl rfl rfl rfl ?_
  refine t_l fX10_ask_256 rfl rfl rfl rfl ?_
  obtain ⟨V52, v53, e54, h⟩ := bd_some h
  refine kcX10_qTold fX10_ask_257 (hr0).1 rfl (q_X10_qTold (hr0) e54) (by decide) ?_
  refine t_l fX10_ask_260 rfl rfl rfl rfl ?_
  refine k9_gr fX10_ask_261 (hr0).1 kg_10_49 (s10_49r hr0) ?_
  refine t_s fX10_ask_264 rfl rfl rfl ?_
  refine k9_ia fX10_ask_265 (s10_49s hr0) (by decide) (by decide) (by decide) ?_
  obtain ⟨V55, v56, e57, h⟩ := bd_some h
  refine kcX10_qTakes fX10_ask_266 (hr0).1 rfl (q_X10_qTakes (hr0) e57) (by decide) ?_
  replace h := lt_some h
  refine k9_iinc fX10_ask_269 rfl (Nat.le_of_ble_eq_true rfl) rfl ?_
  refine k9_goto fX10_ask_272 rfl ?_
  cases h
  exact h0 rfl

theorem tb_X10_ask_188 {X : mX} {n z : Nat} {G : mG} {r0 : Nat} (hr0 : is10 G r0) {x1 x2 x3 : Int} {V V' : mV} {q : Nat × Int} {Q : Nat → Nat → mG → mV → Option Value → Prop} (h0 : q.1 = 0 → T X (9) 280 188 [some (.ref r0), some (.int (iI x1)), some (.int (iI x2)), some (.int (iI q.2))] [] n z G V' Q) (h1 : q.1 = 1 → ∀ j2 : Option Value, T X (9) 280 275 [some (.ref r0), some (.int (iI x1)), j2, some (.int (iI q.2))] [] n z G V' Q) (h : B_X10_ask_188 G r0 x1 x2 x3 V = some (V', q)) : T X (9) 280 188 [some (.ref r0), some (.int (iI x1)), some (.int (iI x2)), some (.int (iI x3))] [] n z G V Q := by
  unfold B_X10_ask_188 at h
  refine t_l fX10_ask_188 rfl rfl rfl rfl ?_
  refine t_s fX10_ask_189 rfl rfl rfl ?_
  obtain ⟨g38, h⟩ := gd_some h
  refine k9_ic_ge fX10_ask_191 rfl g38 ⟨by decide, by decide⟩ (fun c37 => ?_) (fun c37 => ?_)
  · replace h := ite_t (c37) h
    cases h
    exact h1 rfl _
  · replace h := ite_f (c37) h
    refine t_l fX10_ask_194 rfl rfl rfl rfl ?_
    refine k9_gr fX10_ask_195 (hr0).1 kg_10_50 (s10_50r hr0) ?_
    refine t_s fX10_ask_198 rfl rfl rfl ?_
    refine k9_ia fX10_ask_199 (s10_50s hr0) (by decide) (by decide) (by decide) ?_
    refine t_l fX10_ask_200 rfl rfl rfl rfl ?_
    refine k9_iadd fX10_ask_201 ?_
    refine t_s fX10_ask_202 rfl rfl rfl ?_
    obtain ⟨g40, h⟩ := gd_some h
    refine k9_ic_gt fX10_ask_205 rfl g40 ⟨by decide, by decide⟩ (fun c39 => ?_) (fun c39 => ?_)
    · replace h := ite_t (c39) h
      cases h
      exact h1 rfl _
    · replace h := ite_f (c39) h
      refine t_l fX10_ask_208 rfl rfl rfl rfl ?_
      obtain ⟨V41, v42, e43, h⟩ := bd_some h
      refine kcX10_clearsDried fX10_ask_209 (hr0).1 rfl (q_X10_clearsDried (hr0) e43) (by decide) ?_
      refine t_l fX10_ask_212 rfl rfl rfl rfl ?_
      refine k9_if_le fX10_ask_213 rfl g38 (fun c44 => ?_) (fun c44 => ?_)
      · replace h := ite_t (c44) h
        exact tj_X10_ask_J220_188 hr0  h0 h1 h
      · replace h := ite_f (c44) h
        refine t_l fX10_ask_216 rfl rfl rfl rfl ?_
        obtain ⟨V59, v60, e61, h⟩ := bd_some h
        refine kcX10_hourComes fX10_ask_217 (hr0).1 rfl (q_X10_hourComes (hr0) e61) (by decide) ?_
        exact tj_X10_ask_J220_188 hr0  h0 h1 h

theorem tl_X10_ask_188 {X : mX} {n z : Nat} {G : mG} {r0 : Nat} (hr0 : is10 G r0) {x1 x2 x3 : Int} {V V' : mV} {fu : Nat} {q : Nat × Int} {Q : Nat → Nat → mG → mV → Option Value → Prop} (k1 : q.1 = 1 → ∀ j2 : Option Value, T X (9) 280 275 [some (.ref r0), some (.int (iI x1)), j2, some (.int (iI q.2))] [] n z G V' Q) (h : lp (fun (s : Int) V => B_X10_ask_188 G r0 x1 x2 s V) fu x3 V = some (V', q)) : T X (9) 280 188 [some (.ref r0), some (.int (iI x1)), some (.int (iI x2)), some (.int (iI x3))] [] n z G V Q :=
  lp_go (P0 := fun s V => T X (9) 280 188 [some (.ref r0), some (.int (iI x1)), some (.int (iI x2)), some (.int (iI s))] [] n z G V Q) (PE := fun t s V => (t = 1 → ∀ j2 : Option Value, T X (9) 280 275 [some (.ref r0), some (.int (iI x1)), j2, some (.int (iI s))] [] n z G V Q)) (fun s V V' q hb h0 h1 => tb_X10_ask_188 hr0  h0 (fun e => (h1 (by omega)) e) hb) fu x3 V V' q h k1

theorem tj_X10_ask_J275 {X : mX} {n z : Nat} {G : mG} {r0 : Nat} (hr0 : is10 G r0) {x1 : Int} {j2 j3 : Option Value} {V V' : mV} {v : Int} (h : F_X10_ask_J275 G r0 x1 V = some (V', v)) : T X (9) 280 275 [some (.ref r0), some (.int (iI x1)), j2, j3] [] n z G V (qj n z G V' v) := by
  unfold F_X10_ask_J275 at h
  refine t_l fX10_ask_275 rfl rfl rfl rfl ?_
  obtain ⟨V66, v67, e68, h⟩ := bd_some h
  refine kcX10_takesBack fX10_ask_276 (hr0).1 rfl (q_X10_takesBack (hr0) e68) (by decide) ?_
  refine t_l fX10_ask_279 rfl rfl rfl rfl ?_
  refine k9_gj fX10_ask_280 (hr0).1 kg_10_105 ?_
  refine t_ret fX10_ask_283 rX10_ask ?_
  exact qf_j h

theorem tj_X10_ask_J174 {X : mX} {n z : Nat} {G : mG} {r0 : Nat} (hr0 : is10 G r0) {x1 x2 s1 : Int} {j3 : Option Value} {V V' : mV} {v : Int} (h : F_X10_ask_J174 G r0 x1 x2 s1 V = some (V', v)) : T X (9) 280 174 [some (.ref r0), some (.int (iI x1)), some (.int (iI x2)), j3] [.long (lI s1), .ref r0] n z G V (qj n z G V' v) := by
  unfold F_X10_ask_J174 at h
  refine k9_pj fX10_ask_174 (hr0).1 kp_10_105 ?_
  replace h := lt_some h
  refine t_l fX10_ask_177 rfl rfl rfl rfl ?_
  refine t_s fX10_ask_178 rfl rfl rfl ?_
  refine k9_pb fX10_ask_179 (hr0).1 kp_10_106 (by decide) ?_
  replace h := lt_some h
  refine t_l fX10_ask_182 rfl rfl rfl rfl ?_
  obtain ⟨V34, v35, e36, h⟩ := bd_some h
  refine kcX10_putsAside fX10_ask_183 (hr0).1 rfl (q_X10_putsAside (hr0) e36) (by decide) ?_
  refine t_s fX10_ask_186 rfl rfl rfl ?_
  refine t_l fX10_ask_187 rfl rfl rfl rfl ?_
  obtain ⟨V62, u63, e64, h⟩ := bd_some h
  refine tl_X10_ask_188 hr0  (fun e65 j2 => ?_) e64
  exact tj_X10_ask_J275 hr0   h

theorem tj_X10_ask_J134 {X : mX} {n z : Nat} {G : mG} {r0 : Nat} (hr0 : is10 G r0) {x1 x2 : Int} {j3 : Option Value} {V V' : mV} {v : Int} (h : F_X10_ask_J134 G r0 x1 x2 V = some (V', v)) : T X (9) 280 134 [some (.ref r0), some (.int (iI x1)), some (.int (iI x2)), j3] [] n z G V (qj n z G V' v) := by
  unfold F_X10_ask_J134 at h
  refine t_l fX10_ask_134 rfl rfl rfl rfl ?_
  refine t_l fX10_ask_135 rfl rfl rfl rfl ?_
  refine k9_gi fX10_ask_136 (hr0).1 kg_10_5 ?_
  refine k9_pi fX10_ask_139 (hr0).1 kp_10_7 ?_
  replace h := lt_some h
  refine t_l fX10_ask_142 rfl rfl rfl rfl ?_
  refine t_l fX10_ask_143 rfl rfl rfl rfl ?_
  refine k9_gi fX10_ask_144 (hr0).1 kg_10_6 ?_
  refine k9_pi fX10_ask_147 (hr0).1 kp_10_8 ?_
  replace h := lt_some h
  refine t_l fX10_ask_150 rfl rfl rfl rfl ?_
  refine k9_gi fX10_ask_151 (hr0).1 kg_10_5 ?_
  obtain ⟨g29, h⟩ := gd_some h
  refine k9_if_eq fX10_ask_154 rfl g29 (fun c28 => ?_) (fun c28 => ?_)
  · replace h := ite_t (c28) h
    refine t_l fX10_ask_161 rfl rfl rfl rfl ?_
    refine t_l fX10_ask_162 rfl rfl rfl rfl ?_
    refine t_s fX10_ask_163 rfl rfl rfl ?_
    obtain ⟨g31, h⟩ := gd_some h
    refine k9_ic_ge fX10_ask_164 rfl g31 ⟨by decide, by decide⟩ (fun c30 => ?_) (fun c30 => ?_)
    · replace h := ite_t (c30) h
      refine t_s fX10_ask_173 rfl rfl rfl ?_
      exact tj_X10_ask_J174 hr0   h
    · replace h := ite_f (c30) h
      refine t_s fX10_ask_167 rfl rfl rfl ?_
      refine k9_goto fX10_ask_170 rfl ?_
      exact tj_X10_ask_J174 hr0   h
  · replace h := ite_f (c28) h
    refine t_s fX10_ask_157 rfl rfl rfl ?_
    refine t_ret fX10_ask_160 rX10_ask ?_
    exact qf_j h

theorem tj_X10_ask_J110 {X : mX} {n z : Nat} {G : mG} {r0 : Nat} (hr0 : is10 G r0) {x1 x2 : Int} {j3 : Option Value} {V V' : mV} {v : Int} (h : F_X10_ask_J110 G r0 x1 x2 V = some (V', v)) : T X (9) 280 110 [some (.ref r0), some (.int (iI x1)), some (.int (iI x2)), j3] [] n z G V (qj n z G V' v) := by
  unfold F_X10_ask_J110 at h
  refine t_l fX10_ask_110 rfl rfl rfl rfl ?_
  refine k9_gi fX10_ask_111 (hr0).1 kg_10_5 ?_
  obtain ⟨g25, h⟩ := gd_some h
  refine k9_if_ne fX10_ask_114 rfl g25 (fun c24 => ?_) (fun c24 => ?_)
  · replace h := ite_f (c24) h
    exact tj_X10_ask_J134 hr0   h
  · replace h := ite_t (Classical.not_not.mp c24) h
    refine t_l fX10_ask_117 rfl rfl rfl rfl ?_
    obtain ⟨V69, v70, e71, h⟩ := bd_some h
    refine kcX10_look fX10_ask_118 (hr0).1 rfl (q_X10_look (hr0) e71) (by decide) ?_
    refine t_s fX10_ask_121 rfl rfl rfl ?_
    obtain ⟨g73, h⟩ := gd_some h
    refine k9_ic_eq fX10_ask_122 rfl g73 ⟨by decide, by decide⟩ (fun c72 => ?_) (fun c72 => ?_)
    · replace h := ite_t (c72) h
      exact tj_X10_ask_J134 hr0   h
    · replace h := ite_f (c72) h
      refine t_l fX10_ask_125 rfl rfl rfl rfl ?_
      refine t_s fX10_ask_126 rfl rfl rfl ?_
      refine t_l fX10_ask_127 rfl rfl rfl rfl ?_
      refine k9_gi fX10_ask_128 (hr0).1 kg_10_2 ?_
      obtain ⟨V74, v75, e76, h⟩ := bd_some h
      refine kcX10_fail fX10_ask_131 (hr0).1 rfl (q_X10_fail (hr0) e76) (by decide) ?_
      exact tj_X10_ask_J134 hr0   h

theorem tj_X10_ask_J99 {X : mX} {n z : Nat} {G : mG} {r0 : Nat} (hr0 : is10 G r0) {x1 x2 : Int} {j3 : Option Value} {V V' : mV} {v : Int} (h : F_X10_ask_J99 G r0 x1 x2 V = some (V', v)) : T X (9) 280 99 [some (.ref r0), some (.int (iI x1)), some (.int (iI x2)), j3] [] n z G V (qj n z G V' v) := by
  unfold F_X10_ask_J99 at h
  refine t_l fX10_ask_99 rfl rfl rfl rfl ?_
  refine k9_gi fX10_ask_100 (hr0).1 kg_10_5 ?_
  obtain ⟨g23, h⟩ := gd_some h
  refine k9_if_ne fX10_ask_103 rfl g23 (fun c22 => ?_) (fun c22 => ?_)
  · replace h := ite_f (c22) h
    exact tj_X10_ask_J110 hr0   h
  · replace h := ite_t (Classical.not_not.mp c22) h
    refine t_l fX10_ask_106 rfl rfl rfl rfl ?_
    obtain ⟨V77, v78, e79, h⟩ := bd_some h
    refine kcX10_qSums fX10_ask_107 (hr0).1 rfl (q_X10_qSums (hr0) e79) (by decide) ?_
    exact tj_X10_ask_J110 hr0   h

theorem q_X10_ask {X : mX} {n z : Nat} {G : mG} {r0 : Nat} (hr0 : is10 G r0) {x1 : Int} {V V' : mV} {v : Int} (h : F_X10_ask G r0 x1 V = some (V', v)) : Rn X (9) 280 [.ref r0, .int (iI x1)] n z G V n z G V' (some (.long (lI v))) := by
  refine qj_toR (v := v) (L := [some (.ref r0), some (.int (iI x1)), none, none]) rfl ?_
  unfold F_X10_ask at h
  refine t_l fX10_ask_0 rfl rfl rfl rfl ?_
  refine t_l fX10_ask_1 rfl rfl rfl rfl ?_
  obtain ⟨V1, v2, e3, h⟩ := bd_some h
  refine kcX10_isPerson fX10_ask_2 (hr0).1 rfl (q_X10_isPerson (hr0) e3) (by decide) ?_
  obtain ⟨g5, h⟩ := gd_some h
  refine k9_if_ne fX10_ask_5 rfl g5 (fun c4 => ?_) (fun c4 => ?_)
  · replace h := ite_f (c4) h
    refine t_l fX10_ask_17 rfl rfl rfl rfl ?_
    refine t_l fX10_ask_18 rfl rfl rfl rfl ?_
    refine k9_gi fX10_ask_19 (hr0).1 kg_10_1 ?_
    refine k9_pi fX10_ask_22 (hr0).1 kp_10_3 ?_
    replace h := lt_some h
    refine t_l fX10_ask_25 rfl rfl rfl rfl ?_
    refine t_s fX10_ask_26 rfl rfl rfl ?_
    refine k9_pi fX10_ask_27 (hr0).1 kp_10_1 ?_
    replace h := lt_some h
    refine t_l fX10_ask_30 rfl rfl rfl rfl ?_
    refine t_s fX10_ask_31 rfl rfl rfl ?_
    refine k9_pi fX10_ask_32 (hr0).1 kp_10_2 ?_
    replace h := lt_some h
    refine t_l fX10_ask_35 rfl rfl rfl rfl ?_
    refine t_s fX10_ask_36 rfl rfl rfl ?_
    refine k9_pi fX10_ask_37 (hr0).1 kp_10_4 ?_
    replace h := lt_some h
    refine t_l fX10_ask_40 rfl rfl rfl rfl ?_
    refine t_s fX10_ask_41 rfl rfl rfl ?_
    refine k9_pi fX10_ask_42 (hr0).1 kp_10_5 ?_
    replace h := lt_some h
    refine t_l fX10_ask_45 rfl rfl rfl rfl ?_
    refine t_s fX10_ask_46 rfl rfl rfl ?_
    refine k9_pi fX10_ask_47 (hr0).1 kp_10_6 ?_
    replace h := lt_some h
    refine t_l fX10_ask_50 rfl rfl rfl rfl ?_
    refine t_s fX10_ask_51 rfl rfl rfl ?_
    refine k9_pi fX10_ask_52 (hr0).1 kp_10_48 ?_
    replace h := lt_some h
    refine t_l fX10_ask_55 rfl rfl rfl rfl ?_
    refine t_s fX10_ask_56 rfl rfl rfl ?_
    refine k9_pi fX10_ask_57 (hr0).1 kp_10_98 ?_
    replace h := lt_some h
    refine t_l fX10_ask_60 rfl rfl rfl rfl ?_
    refine t_s fX10_ask_61 rfl rfl rfl ?_
    refine k9_pi fX10_ask_62 (hr0).1 kp_10_100 ?_
    replace h := lt_some h
    refine t_l fX10_ask_65 rfl rfl rfl rfl ?_
    refine t_s fX10_ask_66 rfl rfl rfl ?_
    refine k9_pi fX10_ask_67 (hr0).1 kp_10_101 ?_
    replace h := lt_some h
    refine t_l fX10_ask_70 rfl rfl rfl rfl ?_
    refine t_s fX10_ask_71 rfl rfl rfl ?_
    refine k9_pi fX10_ask_72 (hr0).1 kp_10_102 ?_
    replace h := lt_some h
    refine t_l fX10_ask_75 rfl rfl rfl rfl ?_
    obtain ⟨V17, v18, e19, h⟩ := bd_some h
    refine kcX10_qKind fX10_ask_76 (hr0).1 rfl (q_X10_qKind (hr0) e19) (by decide) ?_
    refine t_l fX10_ask_79 rfl rfl rfl rfl ?_
    refine t_l fX10_ask_80 rfl rfl rfl rfl ?_
    refine k9_gi fX10_ask_81 (hr0).1 kg_10_5 ?_
    obtain ⟨g21, h⟩ := gd_some h
    refine k9_if_ne fX10_ask_84 rfl g21 (fun c20 => ?_) (fun c20 => ?_)
    · replace h := ite_f (c20) h
      exact tj_X10_ask_J99 hr0   h
    · replace h := ite_t (Classical.not_not.mp c20) h
      refine t_l fX10_ask_87 rfl rfl rfl rfl ?_
      refine t_s fX10_ask_88 rfl rfl rfl ?_
      obtain ⟨g81, h⟩ := gd_some h
      refine k9_ic_ge fX10_ask_89 rfl g81 ⟨by decide, by decide⟩ (fun c80 => ?_) (fun c80 => ?_)
      · replace h := ite_t (c80) h
        exact tj_X10_ask_J99 hr0   h
      · replace h := ite_f (c80) h
        refine t_l fX10_ask_92 rfl rfl rfl rfl ?_
        obtain ⟨V82, v83, e84, h⟩ := bd_some h
        refine kcX10_qTest fX10_ask_93 (hr0).1 rfl (q_X10_qTest (hr0) e84) (by decide) ?_
        refine k9_goto fX10_ask_96 rfl ?_
        exact tj_X10_ask_J110 hr0   h
  · replace h := ite_t (Classical.not_not.mp c4) h
    refine t_l fX10_ask_8 rfl rfl rfl rfl ?_
    refine t_s fX10_ask_9 rfl rfl rfl ?_
    refine k9_pi fX10_ask_10 (hr0).1 kp_10_1 ?_
    replace h := lt_some h
    refine t_s fX10_ask_13 rfl rfl rfl ?_
    refine t_ret fX10_ask_16 rX10_ask ?_
    exact qf_j h

theorem tb_X10_checked_6 {X : mX} {n z : Nat} {G : mG} {r0 : Nat} (hr0 : G.1 r0 = .inr (0, qG G r0)) {x1 x2 x3 : Int} {V V' : mV} {q : Nat × Int × Int} {Q : Nat → Nat → mG → mV → Option Value → Prop} (h0 : q.1 = 0 → T X (0) 281 6 [some (.ref r0), some (.int (iI x1)), some (.int (iI q.2.1)), some (.int (iI q.2.2))] [] n z G V' Q) (h1 : q.1 = 1 → T X (0) 281 29 [some (.ref r0), some (.int (iI x1)), some (.int (iI q.2.1)), some (.int (iI q.2.2))] [] n z G V' Q) (h : B_X10_checked_6 G r0 x1 x2 x3 V = some (V', q)) : T X (0) 281 6 [some (.ref r0), some (.int (iI x1)), some (.int (iI x2)), some (.int (iI x3))] [] n z G V Q := by
  unfold B_X10_checked_6 at h
  refine t_l fX10_checked_6 rfl rfl rfl rfl ?_
  refine t_l fX10_checked_7 rfl rfl rfl rfl ?_
  obtain ⟨g2, h⟩ := gd_some h
  obtain ⟨g3, h⟩ := gd_some h
  refine k9_ic_ge fX10_checked_8 rfl g2 g3 (fun c1 => ?_) (fun c1 => ?_)
  · replace h := ite_t (c1) h
    cases h
    exact h1 rfl
  · replace h := ite_f (c1) h
    refine t_s fX10_checked_11 rfl rfl rfl ?_
    refine t_l fX10_checked_12 rfl rfl rfl rfl ?_
    refine k9_imul fX10_checked_13 ?_
    refine t_l fX10_checked_14 rfl rfl rfl rfl ?_
    refine t_l fX10_checked_15 rfl rfl rfl rfl ?_
    obtain ⟨g4, h⟩ := gd_some h
    refine k9_ia fX10_checked_16 (hr0) g4.1 g4.2.1 g4.2.2 ?_
    refine k9_iadd fX10_checked_17 ?_
    refine t_s fX10_checked_18 rfl rfl rfl ?_
    obtain ⟨g5, h⟩ := gd_some h
    refine k9_irem fX10_checked_21 g5 ⟨by decide, by decide⟩ (by decide) ?_
    replace h := lt_some h
    refine t_l fX10_checked_22 rfl rfl rfl rfl ?_
    replace h := lt_some h
    refine k9_iinc fX10_checked_23 rfl (Nat.le_of_ble_eq_true rfl) rfl ?_
    refine k9_goto fX10_checked_26 rfl ?_
    cases h
    exact h0 rfl

theorem tl_X10_checked_6 {X : mX} {n z : Nat} {G : mG} {r0 : Nat} (hr0 : G.1 r0 = .inr (0, qG G r0)) {x1 x2 x3 : Int} {V V' : mV} {fu : Nat} {q : Nat × Int × Int} {Q : Nat → Nat → mG → mV → Option Value → Prop} (k1 : q.1 = 1 → T X (0) 281 29 [some (.ref r0), some (.int (iI x1)), some (.int (iI q.2.1)), some (.int (iI q.2.2))] [] n z G V' Q) (h : lp (fun (s : Int × Int) V => B_X10_checked_6 G r0 x1 s.1 s.2 V) fu (x2, x3) V = some (V', q)) : T X (0) 281 6 [some (.ref r0), some (.int (iI x1)), some (.int (iI x2)), some (.int (iI x3))] [] n z G V Q :=
  lp_go (P0 := fun s V => T X (0) 281 6 [some (.ref r0), some (.int (iI x1)), some (.int (iI s.1)), some (.int (iI s.2))] [] n z G V Q) (PE := fun t s V => (t = 1 → T X (0) 281 29 [some (.ref r0), some (.int (iI x1)), some (.int (iI s.1)), some (.int (iI s.2))] [] n z G V Q)) (fun s V V' q hb h0 h1 => tb_X10_checked_6 hr0  h0 (fun e => (h1 (by omega)) e) hb) fu (x2, x3) V V' q h k1

theorem q_X10_checked {X : mX} {n z : Nat} {G : mG} {r0 : Nat} (hr0 : G.1 r0 = .inr (0, qG G r0)) {x1 : Int} {V V' : mV} {v : Int} (h : F_X10_checked G r0 x1 V = some (V', v)) : Rn X (0) 281 [.ref r0, .int (iI x1)] n z G V n z G V' (some (.int (iI v))) := by
  refine qi_toR (v := v) (L := [some (.ref r0), some (.int (iI x1)), none, none]) rfl ?_
  unfold F_X10_checked at h
  refine t_s fX10_checked_0 rfl rfl rfl ?_
  refine t_l fX10_checked_3 rfl rfl rfl rfl ?_
  refine t_s fX10_checked_4 rfl rfl rfl ?_
  refine t_l fX10_checked_5 rfl rfl rfl rfl ?_
  obtain ⟨V8, u9, e10, h⟩ := bd_some h
  refine tl_X10_checked_6 hr0  (fun e11 => ?_) e10
  refine t_l fX10_checked_29 rfl rfl rfl rfl ?_
  refine t_ret fX10_checked_30 rX10_checked ?_
  exact qf_i h

theorem q_X10_writes {X : mX} {n z : Nat} {G : mG} {r0 : Nat} (hr0 : is10 G r0) {x1 : Int} {V V' : mV} {v : Int} (h : F_X10_writes G r0 x1 V = some (V', v)) : Rn X (0) 282 [.ref r0, .int (iI x1)] n z G V n z G V' none := by
  refine qv_toR (v := v) (L := [some (.ref r0), some (.int (iI x1))]) rfl ?_
  unfold F_X10_writes at h
  refine t_l fX10_writes_0 rfl rfl rfl rfl ?_
  refine k9_gr fX10_writes_1 (hr0).1 kg_10_107 (s10_107r hr0) ?_
  refine t_l fX10_writes_4 rfl rfl rfl rfl ?_
  refine k9_gi fX10_writes_5 (hr0).1 kg_10_108 ?_
  refine t_l fX10_writes_8 rfl rfl rfl rfl ?_
  obtain ⟨g1, h⟩ := gd_some h
  refine k9_is fX10_writes_9 (s10_107s hr0) g1.1 g1.2.1 g1.2.2 ?_
  replace h := lt_some h
  refine t_l fX10_writes_10 rfl rfl rfl rfl ?_
  refine t_s fX10_writes_11 rfl rfl rfl ?_
  refine k9_gi fX10_writes_12 (hr0).1 kg_10_108 ?_
  refine t_s fX10_writes_15 rfl rfl rfl ?_
  refine k9_iadd fX10_writes_16 ?_
  refine k9_pi fX10_writes_17 (hr0).1 kp_10_108 ?_
  replace h := lt_some h
  refine t_ret fX10_writes_20 rX10_writes ?_
  exact qf_v h

theorem tb_X10_image_67 {X : mX} {n z : Nat} {G : mG} {r0 : Nat} (hr0 : is10 G r0) {x1 x2 : Int} {V V' : mV} {q : Nat × Int} {Q : Nat → Nat → mG → mV → Option Value → Prop} (h0 : q.1 = 0 → T X (1) 283 67 [some (.ref r0), some (.int (iI x1)), some (.int (iI q.2))] [] n z G V' Q) (h1 : q.1 = 1 → T X (1) 283 91 [some (.ref r0), some (.int (iI x1)), some (.int (iI q.2))] [] n z G V' Q) (h : B_X10_image_67 G r0 x1 x2 V = some (V', q)) : T X (1) 283 67 [some (.ref r0), some (.int (iI x1)), some (.int (iI x2))] [] n z G V Q := by
  unfold B_X10_image_67 at h
  refine t_l fX10_image_67 rfl rfl rfl rfl ?_
  refine t_l fX10_image_68 rfl rfl rfl rfl ?_
  obtain ⟨V28, v29, e30, h⟩ := bd_some h
  refine kcX10_peopleMany fX10_image_69 (hr0).1 rfl (q_X10_peopleMany (hr0) e30) (by decide) ?_
  obtain ⟨g32, h⟩ := gd_some h
  obtain ⟨g33, h⟩ := gd_some h
  refine k9_ic_ge fX10_image_72 rfl g32 g33 (fun c31 => ?_) (fun c31 => ?_)
  · replace h := ite_t (c31) h
    cases h
    exact h1 rfl
  · replace h := ite_f (c31) h
    refine t_l fX10_image_75 rfl rfl rfl rfl ?_
    refine t_l fX10_image_76 rfl rfl rfl rfl ?_
    refine t_l fX10_image_77 rfl rfl rfl rfl ?_
    refine t_l fX10_image_78 rfl rfl rfl rfl ?_
    obtain ⟨V34, v35, e36, h⟩ := bd_some h
    refine kcX10_pointsOf fX10_image_79 (hr0).1 rfl (q_X10_pointsOf (hr0) e36) (by decide) ?_
    obtain ⟨V37, v38, e39, h⟩ := bd_some h
    refine kcX10_writes fX10_image_82 (hr0).1 rfl (q_X10_writes (hr0) e39) (by decide) ?_
    replace h := lt_some h
    refine k9_iinc fX10_image_85 rfl (Nat.le_of_ble_eq_true rfl) rfl ?_
    refine k9_goto fX10_image_88 rfl ?_
    cases h
    exact h0 rfl

theorem tl_X10_image_67 {X : mX} {n z : Nat} {G : mG} {r0 : Nat} (hr0 : is10 G r0) {x1 x2 : Int} {V V' : mV} {fu : Nat} {q : Nat × Int} {Q : Nat → Nat → mG → mV → Option Value → Prop} (k1 : q.1 = 1 → T X (1) 283 91 [some (.ref r0), some (.int (iI x1)), some (.int (iI q.2))] [] n z G V' Q) (h : lp (fun (s : Int) V => B_X10_image_67 G r0 x1 s V) fu x2 V = some (V', q)) : T X (1) 283 67 [some (.ref r0), some (.int (iI x1)), some (.int (iI x2))] [] n z G V Q :=
  lp_go (P0 := fun s V => T X (1) 283 67 [some (.ref r0), some (.int (iI x1)), some (.int (iI s))] [] n z G V Q) (PE := fun t s V => (t = 1 → T X (1) 283 91 [some (.ref r0), some (.int (iI x1)), some (.int (iI s))] [] n z G V Q)) (fun s V V' q hb h0 h1 => tb_X10_image_67 hr0  h0 (fun e => (h1 (by omega)) e) hb) fu x2 V V' q h k1

theorem tb_X10_image_35 {X : mX} {n z : Nat} {G : mG} {r0 : Nat} (hr0 : is10 G r0) {x1 : Int} {j2 : Option Value} {V V' : mV} {q : Nat × Int} {Q : Nat → Nat → mG → mV → Option Value → Prop} (h0 : q.1 = 0 → ∀ j2 : Option Value, T X (1) 283 35 [some (.ref r0), some (.int (iI q.2)), j2] [] n z G V' Q) (h1 : q.1 = 1 → ∀ j2 : Option Value, T X (1) 283 97 [some (.ref r0), some (.int (iI q.2)), j2] [] n z G V' Q) (h : B_X10_image_35 G r0 x1 V = some (V', q)) : T X (1) 283 35 [some (.ref r0), some (.int (iI x1)), j2] [] n z G V Q := by
  unfold B_X10_image_35 at h
  refine t_l fX10_image_35 rfl rfl rfl rfl ?_
  refine t_l fX10_image_36 rfl rfl rfl rfl ?_
  obtain ⟨V10, v11, e12, h⟩ := bd_some h
  refine kcX10_peopleMany fX10_image_37 (hr0).1 rfl (q_X10_peopleMany (hr0) e12) (by decide) ?_
  obtain ⟨g14, h⟩ := gd_some h
  obtain ⟨g15, h⟩ := gd_some h
  refine k9_ic_ge fX10_image_40 rfl g14 g15 (fun c13 => ?_) (fun c13 => ?_)
  · replace h := ite_t (c13) h
    cases h
    exact h1 rfl _
  · replace h := ite_f (c13) h
    refine t_l fX10_image_43 rfl rfl rfl rfl ?_
    refine t_l fX10_image_44 rfl rfl rfl rfl ?_
    refine t_l fX10_image_45 rfl rfl rfl rfl ?_
    obtain ⟨V16, v17, e18, h⟩ := bd_some h
    refine kcX10_livesNow fX10_image_46 (hr0).1 rfl (q_X10_livesNow (hr0) e18) (by decide) ?_
    refine t_s fX10_image_49 rfl rfl rfl ?_
    refine k9_iadd fX10_image_50 ?_
    obtain ⟨V19, v20, e21, h⟩ := bd_some h
    refine kcX10_writes fX10_image_51 (hr0).1 rfl (q_X10_writes (hr0) e21) (by decide) ?_
    refine t_l fX10_image_54 rfl rfl rfl rfl ?_
    refine t_l fX10_image_55 rfl rfl rfl rfl ?_
    refine t_l fX10_image_56 rfl rfl rfl rfl ?_
    obtain ⟨V22, v23, e24, h⟩ := bd_some h
    refine kcX10_watches fX10_image_57 (hr0).1 rfl (q_X10_watches (hr0) e24) (by decide) ?_
    refine t_s fX10_image_60 rfl rfl rfl ?_
    refine k9_iadd fX10_image_61 ?_
    obtain ⟨V25, v26, e27, h⟩ := bd_some h
    refine kcX10_writes fX10_image_62 (hr0).1 rfl (q_X10_writes (hr0) e27) (by decide) ?_
    refine t_s fX10_image_65 rfl rfl rfl ?_
    refine t_l fX10_image_66 rfl rfl rfl rfl ?_
    obtain ⟨V41, u42, e43, h⟩ := bd_some h
    refine tl_X10_image_67 hr0  (fun e44 => ?_) e43
    replace h := lt_some h
    refine k9_iinc fX10_image_91 rfl (Nat.le_of_ble_eq_true rfl) rfl ?_
    refine k9_goto fX10_image_94 rfl ?_
    cases h
    exact h0 rfl _

theorem tl_X10_image_35 {X : mX} {n z : Nat} {G : mG} {r0 : Nat} (hr0 : is10 G r0) {x1 : Int} {j2 : Option Value} {V V' : mV} {fu : Nat} {q : Nat × Int} {Q : Nat → Nat → mG → mV → Option Value → Prop} (k1 : q.1 = 1 → ∀ j2 : Option Value, T X (1) 283 97 [some (.ref r0), some (.int (iI q.2)), j2] [] n z G V' Q) (h : lp (fun (s : Int) V => B_X10_image_35 G r0 s V) fu x1 V = some (V', q)) : T X (1) 283 35 [some (.ref r0), some (.int (iI x1)), j2] [] n z G V Q :=
  lp_go (P0 := fun s V => ∀ j2 : Option Value, T X (1) 283 35 [some (.ref r0), some (.int (iI s)), j2] [] n z G V Q) (PE := fun t s V => (t = 1 → ∀ j2 : Option Value, T X (1) 283 97 [some (.ref r0), some (.int (iI s)), j2] [] n z G V Q)) (fun s V V' q hb h0 h1 => fun _ => tb_X10_image_35 hr0  h0 (fun e => (h1 (by omega)) e) hb) fu x1 V V' q h k1 _

theorem q_X10_image {X : mX} {n z : Nat} {G : mG} {r0 : Nat} (hr0 : is10 G r0) {V V' : mV} {v : Int} (h : F_X10_image G r0 V = some (V', v)) : Rn X (1) 283 [.ref r0] n z G V n z G V' (some (.int (iI v))) := by
  refine qi_toR (v := v) (L := [some (.ref r0), none, none]) rfl ?_
  unfold F_X10_image at h
  refine t_l fX10_image_0 rfl rfl rfl rfl ?_
  refine t_s fX10_image_1 rfl rfl rfl ?_
  refine k9_pi fX10_image_2 (hr0).1 kp_10_108 ?_
  replace h := lt_some h
  refine t_l fX10_image_5 rfl rfl rfl rfl ?_
  refine t_l fX10_image_6 rfl rfl rfl rfl ?_
  refine k9_gr fX10_image_7 (hr0).1 kg_10_49 (s10_49r hr0) ?_
  refine t_s fX10_image_10 rfl rfl rfl ?_
  refine k9_ia fX10_image_11 (s10_49s hr0) (by decide) (by decide) (by decide) ?_
  refine t_s fX10_image_12 rfl rfl rfl ?_
  obtain ⟨g2, h⟩ := gd_some h
  refine k9_idiv fX10_image_15 g2 ⟨by decide, by decide⟩ (by decide) ?_
  obtain ⟨V3, v4, e5, h⟩ := bd_some h
  refine kcX10_writes fX10_image_16 (hr0).1 rfl (q_X10_writes (hr0) e5) (by decide) ?_
  refine t_l fX10_image_19 rfl rfl rfl rfl ?_
  refine t_l fX10_image_20 rfl rfl rfl rfl ?_
  refine k9_gr fX10_image_21 (hr0).1 kg_10_49 (s10_49r hr0) ?_
  refine t_s fX10_image_24 rfl rfl rfl ?_
  refine k9_ia fX10_image_25 (s10_49s hr0) (by decide) (by decide) (by decide) ?_
  refine t_s fX10_image_26 rfl rfl rfl ?_
  obtain ⟨g6, h⟩ := gd_some h
  refine k9_irem fX10_image_29 g6 ⟨by decide, by decide⟩ (by decide) ?_
  obtain ⟨V7, v8, e9, h⟩ := bd_some h
  refine kcX10_writes fX10_image_30 (hr0).1 rfl (q_X10_writes (hr0) e9) (by decide) ?_
  refine t_s fX10_image_33 rfl rfl rfl ?_
  refine t_l fX10_image_34 rfl rfl rfl rfl ?_
  obtain ⟨V46, u47, e48, h⟩ := bd_some h
  refine tl_X10_image_35 hr0  (fun e49 j2 => ?_) e48
  refine t_l fX10_image_97 rfl rfl rfl rfl ?_
  refine t_l fX10_image_98 rfl rfl rfl rfl ?_
  refine k9_gr fX10_image_99 (hr0).1 kg_10_107 (s10_107r hr0) ?_
  refine t_l fX10_image_102 rfl rfl rfl rfl ?_
  refine k9_gi fX10_image_103 (hr0).1 kg_10_108 ?_
  obtain ⟨V50, v51, e52, h⟩ := bd_some h
  refine kcX10_checked fX10_image_106 rfl rfl (q_X10_checked (qGf (s10_107s hr0)) e52) (by decide) ?_
  obtain ⟨V53, v54, e55, h⟩ := bd_some h
  refine kcX10_writes fX10_image_109 (hr0).1 rfl (q_X10_writes (hr0) e55) (by decide) ?_
  refine t_l fX10_image_112 rfl rfl rfl rfl ?_
  refine k9_gi fX10_image_113 (hr0).1 kg_10_108 ?_
  refine t_ret fX10_image_116 rX10_image ?_
  exact qf_i h

theorem q_X10_octet {X : mX} {n z : Nat} {G : mG} {r0 : Nat} (hr0 : is10 G r0) {x1 : Int} {V V' : mV} {v : Int} (h : F_X10_octet G r0 x1 V = some (V', v)) : Rn X (0) 284 [.ref r0, .int (iI x1)] n z G V n z G V' (some (.int (iI v))) := by
  refine qi_toR (v := v) (L := [some (.ref r0), some (.int (iI x1))]) rfl ?_
  unfold F_X10_octet at h
  refine t_l fX10_octet_0 rfl rfl rfl rfl ?_
  obtain ⟨g2, h⟩ := gd_some h
  refine k9_if_lt fX10_octet_1 rfl g2 (fun c1 => ?_) (fun c1 => ?_)
  · replace h := ite_t (c1) h
    refine t_s fX10_octet_21 rfl rfl rfl ?_
    refine t_ret fX10_octet_22 rX10_octet ?_
    exact qf_i h
  · replace h := ite_f (c1) h
    refine t_l fX10_octet_4 rfl rfl rfl rfl ?_
    refine t_l fX10_octet_5 rfl rfl rfl rfl ?_
    refine k9_gi fX10_octet_6 (hr0).1 kg_10_108 ?_
    obtain ⟨g4, h⟩ := gd_some h
    refine k9_ic_ge fX10_octet_9 rfl g2 g4 (fun c3 => ?_) (fun c3 => ?_)
    · replace h := ite_t (c3) h
      refine t_s fX10_octet_21 rfl rfl rfl ?_
      refine t_ret fX10_octet_22 rX10_octet ?_
      exact qf_i h
    · replace h := ite_f (c3) h
      refine t_l fX10_octet_12 rfl rfl rfl rfl ?_
      refine k9_gr fX10_octet_13 (hr0).1 kg_10_107 (s10_107r hr0) ?_
      refine t_l fX10_octet_16 rfl rfl rfl rfl ?_
      obtain ⟨g5, h⟩ := gd_some h
      refine k9_ia fX10_octet_17 (s10_107s hr0) g5.1 g5.2.1 g5.2.2 ?_
      refine k9_goto fX10_octet_18 rfl ?_
      refine t_ret fX10_octet_22 rX10_octet ?_
      exact qf_i h

theorem tb_X10_isPersonTold_75 {X : mX} {n z : Nat} {G : mG} {r0 : Nat} (hr0 : is10 G r0) {x1 x2 x3 x4 : Int} {V V' : mV} {q : Nat × Int} {Q : Nat → Nat → mG → mV → Option Value → Prop} (h0 : q.1 = 0 → T X (1) 285 75 [some (.ref r0), some (.int (iI x1)), some (.int (iI x2)), some (.int (iI x3)), some (.int (iI q.2))] [] n z G V' Q) (h1 : q.1 = 1 → ∀ j2 : Option Value, T X (1) 285 110 [some (.ref r0), some (.int (iI x1)), j2, some (.int (iI x3)), some (.int (iI q.2))] [] n z G V' Q) (h2 : q.1 = 2 → ∀ j2 : Option Value, T X (1) 285 118 [some (.ref r0), some (.int (iI x1)), j2, some (.int (iI x3)), some (.int (iI q.2))] [] n z G V' Q) (h : B_X10_isPersonTold_75 G r0 x1 x2 x3 x4 V = some (V', q)) : T X (1) 285 75 [some (.ref r0), some (.int (iI x1)), some (.int (iI x2)), some (.int (iI x3)), some (.int (iI x4))] [] n z G V Q := by
  unfold B_X10_isPersonTold_75 at h
  refine t_l fX10_isPersonTold_75 rfl rfl rfl rfl ?_
  refine t_l fX10_isPersonTold_77 rfl rfl rfl rfl ?_
  obtain ⟨g27, h⟩ := gd_some h
  obtain ⟨g28, h⟩ := gd_some h
  refine k9_ic_ge fX10_isPersonTold_78 rfl g27 g28 (fun c26 => ?_) (fun c26 => ?_)
  · replace h := ite_t (c26) h
    cases h
    exact h2 rfl _
  · replace h := ite_f (c26) h
    refine t_l fX10_isPersonTold_81 rfl rfl rfl rfl ?_
    refine k9_gr fX10_isPersonTold_82 (hr0).1 kg_10_0 (s10_0r hr0) ?_
    refine t_l fX10_isPersonTold_85 rfl rfl rfl rfl ?_
    obtain ⟨g29, h⟩ := gd_some h
    refine k9_ia fX10_isPersonTold_86 (s10_0s hr0) g29.1 g29.2.1 g29.2.2 ?_
    obtain ⟨g31, h⟩ := gd_some h
    refine k9_if_le fX10_isPersonTold_87 rfl g31 (fun c30 => ?_) (fun c30 => ?_)
    · replace h := ite_t (c30) h
      replace h := lt_some h
      refine k9_iinc fX10_isPersonTold_112 rfl (Nat.le_of_ble_eq_true rfl) rfl ?_
      refine k9_goto fX10_isPersonTold_115 rfl ?_
      cases h
      exact h0 rfl
    · replace h := ite_f (c30) h
      refine t_l fX10_isPersonTold_90 rfl rfl rfl rfl ?_
      refine k9_gr fX10_isPersonTold_91 (hr0).1 kg_10_0 (s10_0r hr0) ?_
      refine t_s fX10_isPersonTold_94 rfl rfl rfl ?_
      refine t_l fX10_isPersonTold_95 rfl rfl rfl rfl ?_
      refine t_l fX10_isPersonTold_96 rfl rfl rfl rfl ?_
      refine k9_imul fX10_isPersonTold_98 ?_
      refine k9_iadd fX10_isPersonTold_99 ?_
      obtain ⟨g33, h⟩ := gd_some h
      refine k9_ia fX10_isPersonTold_100 (s10_0s hr0) g33.1 g33.2.1 g33.2.2 ?_
      refine t_l fX10_isPersonTold_101 rfl rfl rfl rfl ?_
      refine k9_gr fX10_isPersonTold_102 (hr0).1 kg_10_0 (s10_0r hr0) ?_
      refine t_l fX10_isPersonTold_105 rfl rfl rfl rfl ?_
      refine k9_ia fX10_isPersonTold_106 (s10_0s hr0) g29.1 g29.2.1 g29.2.2 ?_
      obtain ⟨g35, h⟩ := gd_some h
      refine k9_ic_ne fX10_isPersonTold_107 rfl g35 g31 (fun c34 => ?_) (fun c34 => ?_)
      · replace h := ite_f (c34) h
        replace h := lt_some h
        refine k9_iinc fX10_isPersonTold_112 rfl (Nat.le_of_ble_eq_true rfl) rfl ?_
        refine k9_goto fX10_isPersonTold_115 rfl ?_
        cases h
        exact h0 rfl
      · replace h := ite_t (Classical.not_not.mp c34) h
        cases h
        exact h1 rfl _

theorem tl_X10_isPersonTold_75 {X : mX} {n z : Nat} {G : mG} {r0 : Nat} (hr0 : is10 G r0) {x1 x2 x3 x4 : Int} {V V' : mV} {fu : Nat} {q : Nat × Int} {Q : Nat → Nat → mG → mV → Option Value → Prop} (k1 : q.1 = 1 → ∀ j2 : Option Value, T X (1) 285 110 [some (.ref r0), some (.int (iI x1)), j2, some (.int (iI x3)), some (.int (iI q.2))] [] n z G V' Q) (k2 : q.1 = 2 → ∀ j2 : Option Value, T X (1) 285 118 [some (.ref r0), some (.int (iI x1)), j2, some (.int (iI x3)), some (.int (iI q.2))] [] n z G V' Q) (h : lp (fun (s : Int) V => B_X10_isPersonTold_75 G r0 x1 x2 x3 s V) fu x4 V = some (V', q)) : T X (1) 285 75 [some (.ref r0), some (.int (iI x1)), some (.int (iI x2)), some (.int (iI x3)), some (.int (iI x4))] [] n z G V Q :=
  lp_go (P0 := fun s V => T X (1) 285 75 [some (.ref r0), some (.int (iI x1)), some (.int (iI x2)), some (.int (iI x3)), some (.int (iI s))] [] n z G V Q) (PE := fun t s V => (t = 1 → ∀ j2 : Option Value, T X (1) 285 110 [some (.ref r0), some (.int (iI x1)), j2, some (.int (iI x3)), some (.int (iI s))] [] n z G V Q) ∧ (t = 2 → ∀ j2 : Option Value, T X (1) 285 118 [some (.ref r0), some (.int (iI x1)), j2, some (.int (iI x3)), some (.int (iI s))] [] n z G V Q)) (fun s V V' q hb h0 h1 => tb_X10_isPersonTold_75 hr0  h0 (fun e => (h1 (by omega)).1 e) (fun e => (h1 (by omega)).2 e) hb) fu x4 V V' q h ⟨k1, k2⟩

theorem tb_X10_isPersonTold_121 {X : mX} {n z : Nat} {G : mG} {r0 : Nat} (hr0 : is10 G r0) {x1 x3 x4 : Int} {j2 : Option Value} {V V' : mV} {q : Nat × Int} {Q : Nat → Nat → mG → mV → Option Value → Prop} (h0 : q.1 = 0 → ∀ j2 : Option Value, T X (1) 285 121 [some (.ref r0), some (.int (iI x1)), j2, some (.int (iI x3)), some (.int (iI q.2))] [] n z G V' Q) (h1 : q.1 = 1 → ∀ j2 j3 : Option Value, T X (1) 285 146 [some (.ref r0), some (.int (iI x1)), j2, j3, some (.int (iI q.2))] [] n z G V' Q) (h2 : q.1 = 2 → ∀ j2 j3 : Option Value, T X (1) 285 154 [some (.ref r0), some (.int (iI x1)), j2, j3, some (.int (iI q.2))] [] n z G V' Q) (h : B_X10_isPersonTold_121 G r0 x1 x3 x4 V = some (V', q)) : T X (1) 285 121 [some (.ref r0), some (.int (iI x1)), j2, some (.int (iI x3)), some (.int (iI x4))] [] n z G V Q := by
  unfold B_X10_isPersonTold_121 at h
  refine t_l fX10_isPersonTold_121 rfl rfl rfl rfl ?_
  refine t_l fX10_isPersonTold_123 rfl rfl rfl rfl ?_
  obtain ⟨V41, v42, e43, h⟩ := bd_some h
  refine kcX10_peopleMany fX10_isPersonTold_124 (hr0).1 rfl (q_X10_peopleMany (hr0) e43) (by decide) ?_
  obtain ⟨g45, h⟩ := gd_some h
  obtain ⟨g46, h⟩ := gd_some h
  refine k9_ic_ge fX10_isPersonTold_127 rfl g45 g46 (fun c44 => ?_) (fun c44 => ?_)
  · replace h := ite_t (c44) h
    cases h
    exact h2 rfl _ _
  · replace h := ite_f (c44) h
    refine t_l fX10_isPersonTold_130 rfl rfl rfl rfl ?_
    refine k9_gr fX10_isPersonTold_131 (hr0).1 kg_10_0 (s10_0r hr0) ?_
    refine t_l fX10_isPersonTold_134 rfl rfl rfl rfl ?_
    refine t_s fX10_isPersonTold_135 rfl rfl rfl ?_
    refine k9_iadd fX10_isPersonTold_136 ?_
    refine t_l fX10_isPersonTold_137 rfl rfl rfl rfl ?_
    refine k9_iadd fX10_isPersonTold_139 ?_
    obtain ⟨g47, h⟩ := gd_some h
    refine k9_ia fX10_isPersonTold_140 (s10_0s hr0) g47.1 g47.2.1 g47.2.2 ?_
    refine t_s fX10_isPersonTold_141 rfl rfl rfl ?_
    obtain ⟨g49, h⟩ := gd_some h
    refine k9_ic_le fX10_isPersonTold_143 rfl g49 ⟨by decide, by decide⟩ (fun c48 => ?_) (fun c48 => ?_)
    · replace h := ite_t (c48) h
      replace h := lt_some h
      refine k9_iinc fX10_isPersonTold_148 rfl (Nat.le_of_ble_eq_true rfl) rfl ?_
      refine k9_goto fX10_isPersonTold_151 rfl ?_
      cases h
      exact h0 rfl _
    · replace h := ite_f (c48) h
      cases h
      exact h1 rfl _ _

theorem tl_X10_isPersonTold_121 {X : mX} {n z : Nat} {G : mG} {r0 : Nat} (hr0 : is10 G r0) {x1 x3 x4 : Int} {j2 : Option Value} {V V' : mV} {fu : Nat} {q : Nat × Int} {Q : Nat → Nat → mG → mV → Option Value → Prop} (k1 : q.1 = 1 → ∀ j2 j3 : Option Value, T X (1) 285 146 [some (.ref r0), some (.int (iI x1)), j2, j3, some (.int (iI q.2))] [] n z G V' Q) (k2 : q.1 = 2 → ∀ j2 j3 : Option Value, T X (1) 285 154 [some (.ref r0), some (.int (iI x1)), j2, j3, some (.int (iI q.2))] [] n z G V' Q) (h : lp (fun (s : Int) V => B_X10_isPersonTold_121 G r0 x1 x3 s V) fu x4 V = some (V', q)) : T X (1) 285 121 [some (.ref r0), some (.int (iI x1)), j2, some (.int (iI x3)), some (.int (iI x4))] [] n z G V Q :=
  lp_go (P0 := fun s V => ∀ j2 : Option Value, T X (1) 285 121 [some (.ref r0), some (.int (iI x1)), j2, some (.int (iI x3)), some (.int (iI s))] [] n z G V Q) (PE := fun t s V => (t = 1 → ∀ j2 j3 : Option Value, T X (1) 285 146 [some (.ref r0), some (.int (iI x1)), j2, j3, some (.int (iI s))] [] n z G V Q) ∧ (t = 2 → ∀ j2 j3 : Option Value, T X (1) 285 154 [some (.ref r0), some (.int (iI x1)), j2, j3, some (.int (iI s))] [] n z G V Q)) (fun s V V' q hb h0 h1 => fun _ => tb_X10_isPersonTold_121 hr0  h0 (fun e => (h1 (by omega)).1 e) (fun e => (h1 (by omega)).2 e) hb) fu x4 V V' q h ⟨k1, k2⟩ _

theorem q_X10_isPersonTold {X : mX} {n z : Nat} {G : mG} {r0 : Nat} (hr0 : is10 G r0) {x1 : Int} {V V' : mV} {v : Int} (h : F_X10_isPersonTold G r0 x1 V = some (V', v)) : Rn X (1) 285 [.ref r0, .int (iI x1)] n z G V n z G V' (some (.int (iI v))) := by
  refine qi_toR (v := v) (L := [some (.ref r0), some (.int (iI x1)), none, none, none]) rfl ?_
  unfold F_X10_isPersonTold at h
  refine t_s fX10_isPersonTold_0 rfl rfl rfl ?_
  refine t_l fX10_isPersonTold_1 rfl rfl rfl rfl ?_
  obtain ⟨V1, v2, e3, h⟩ := bd_some h
  refine kcX10_peopleMany fX10_isPersonTold_2 (hr0).1 rfl (q_X10_peopleMany (hr0) e3) (by decide) ?_
  refine k9_iadd fX10_isPersonTold_5 ?_
  replace h := lt_some h
  refine t_l fX10_isPersonTold_6 rfl rfl rfl rfl ?_
  refine t_s fX10_isPersonTold_7 rfl rfl rfl ?_
  refine t_l fX10_isPersonTold_8 rfl rfl rfl rfl ?_
  refine t_l fX10_isPersonTold_9 rfl rfl rfl rfl ?_
  refine k9_imul fX10_isPersonTold_10 ?_
  refine k9_iadd fX10_isPersonTold_11 ?_
  replace h := lt_some h
  refine t_l fX10_isPersonTold_12 rfl rfl rfl rfl ?_
  refine t_l fX10_isPersonTold_13 rfl rfl rfl rfl ?_
  refine k9_gr fX10_isPersonTold_14 (hr0).1 kg_10_0 (s10_0r hr0) ?_
  refine t_l fX10_isPersonTold_17 rfl rfl rfl rfl ?_
  obtain ⟨g6, h⟩ := gd_some h
  refine k9_ia fX10_isPersonTold_18 (s10_0s hr0) g6.1 g6.2.1 g6.2.2 ?_
  refine t_l fX10_isPersonTold_19 rfl rfl rfl rfl ?_
  obtain ⟨V7, v8, e9, h⟩ := bd_some h
  refine kcX10_peopleMany fX10_isPersonTold_20 (hr0).1 rfl (q_X10_peopleMany (hr0) e9) (by decide) ?_
  obtain ⟨g11, h⟩ := gd_some h
  obtain ⟨g12, h⟩ := gd_some h
  refine k9_ic_gt fX10_isPersonTold_23 rfl g11 g12 (fun c10 => ?_) (fun c10 => ?_)
  · replace h := ite_t (c10) h
    refine t_s fX10_isPersonTold_70 rfl rfl rfl ?_
    refine t_ret fX10_isPersonTold_71 (rX10_isPersonTold _ (by decide)) ?_
    exact qf_i h
  · replace h := ite_f (c10) h
    refine t_l fX10_isPersonTold_26 rfl rfl rfl rfl ?_
    refine k9_gr fX10_isPersonTold_27 (hr0).1 kg_10_0 (s10_0r hr0) ?_
    refine t_l fX10_isPersonTold_30 rfl rfl rfl rfl ?_
    refine t_s fX10_isPersonTold_31 rfl rfl rfl ?_
    refine k9_iadd fX10_isPersonTold_32 ?_
    obtain ⟨g13, h⟩ := gd_some h
    refine k9_ia fX10_isPersonTold_33 (s10_0s hr0) g13.1 g13.2.1 g13.2.2 ?_
    refine t_l fX10_isPersonTold_34 rfl rfl rfl rfl ?_
    obtain ⟨V14, v15, e16, h⟩ := bd_some h
    refine kcX10_peopleMany fX10_isPersonTold_35 (hr0).1 rfl (q_X10_peopleMany (hr0) e16) (by decide) ?_
    obtain ⟨g18, h⟩ := gd_some h
    obtain ⟨g19, h⟩ := gd_some h
    refine k9_ic_gt fX10_isPersonTold_38 rfl g18 g19 (fun c17 => ?_) (fun c17 => ?_)
    · replace h := ite_t (c17) h
      refine t_s fX10_isPersonTold_70 rfl rfl rfl ?_
      refine t_ret fX10_isPersonTold_71 (rX10_isPersonTold _ (by decide)) ?_
      exact qf_i h
    · replace h := ite_f (c17) h
      refine t_l fX10_isPersonTold_41 rfl rfl rfl rfl ?_
      refine k9_gr fX10_isPersonTold_42 (hr0).1 kg_10_0 (s10_0r hr0) ?_
      refine t_l fX10_isPersonTold_45 rfl rfl rfl rfl ?_
      refine t_s fX10_isPersonTold_46 rfl rfl rfl ?_
      refine k9_iadd fX10_isPersonTold_47 ?_
      refine k9_ia fX10_isPersonTold_48 (s10_0s hr0) g13.1 g13.2.1 g13.2.2 ?_
      refine t_l fX10_isPersonTold_49 rfl rfl rfl rfl ?_
      refine t_s fX10_isPersonTold_50 rfl rfl rfl ?_
      refine k9_iadd fX10_isPersonTold_51 ?_
      obtain ⟨g21, h⟩ := gd_some h
      obtain ⟨g22, h⟩ := gd_some h
      refine k9_ic_eq fX10_isPersonTold_52 rfl g21 g22 (fun c20 => ?_) (fun c20 => ?_)
      · replace h := ite_t (c20) h
        refine t_s fX10_isPersonTold_70 rfl rfl rfl ?_
        refine t_ret fX10_isPersonTold_71 (rX10_isPersonTold _ (by decide)) ?_
        exact qf_i h
      · replace h := ite_f (c20) h
        refine t_l fX10_isPersonTold_55 rfl rfl rfl rfl ?_
        refine k9_gr fX10_isPersonTold_56 (hr0).1 kg_10_0 (s10_0r hr0) ?_
        refine t_l fX10_isPersonTold_59 rfl rfl rfl rfl ?_
        refine t_s fX10_isPersonTold_60 rfl rfl rfl ?_
        refine k9_iadd fX10_isPersonTold_61 ?_
        refine t_l fX10_isPersonTold_62 rfl rfl rfl rfl ?_
        refine k9_iadd fX10_isPersonTold_63 ?_
        obtain ⟨g23, h⟩ := gd_some h
        refine k9_ia fX10_isPersonTold_64 (s10_0s hr0) g23.1 g23.2.1 g23.2.2 ?_
        refine t_s fX10_isPersonTold_65 rfl rfl rfl ?_
        obtain ⟨g25, h⟩ := gd_some h
        refine k9_ic_eq fX10_isPersonTold_67 rfl g25 ⟨by decide, by decide⟩ (fun c24 => ?_) (fun c24 => ?_)
        · replace h := ite_t (c24) h
          refine t_s fX10_isPersonTold_72 rfl rfl rfl ?_
          refine t_l fX10_isPersonTold_73 rfl rfl rfl rfl ?_
          obtain ⟨V37, u38, e39, h⟩ := bd_some h
          refine tl_X10_isPersonTold_75 hr0  (fun e40 j2 => ?_) (fun e40 j2 => ?_) e39
          · replace h := ite_t e40 h
            refine t_s fX10_isPersonTold_110 rfl rfl rfl ?_
            refine t_ret fX10_isPersonTold_111 (rX10_isPersonTold _ (by decide)) ?_
            exact qf_i h
          · replace h := ite_f (by omega) h
            refine t_s fX10_isPersonTold_118 rfl rfl rfl ?_
            refine t_l fX10_isPersonTold_119 rfl rfl rfl rfl ?_
            obtain ⟨V51, u52, e53, h⟩ := bd_some h
            refine tl_X10_isPersonTold_121 hr0  (fun e54 j2 j3 => ?_) (fun e54 j2 j3 => ?_) e53
            · replace h := ite_t e54 h
              refine t_s fX10_isPersonTold_146 rfl rfl rfl ?_
              refine t_ret fX10_isPersonTold_147 (rX10_isPersonTold _ (by decide)) ?_
              exact qf_i h
            · replace h := ite_f (by omega) h
              refine t_s fX10_isPersonTold_154 rfl rfl rfl ?_
              refine t_ret fX10_isPersonTold_155 (rX10_isPersonTold _ (by decide)) ?_
              exact qf_i h
        · replace h := ite_f (c24) h
          refine t_s fX10_isPersonTold_70 rfl rfl rfl ?_
          refine t_ret fX10_isPersonTold_71 (rX10_isPersonTold _ (by decide)) ?_
          exact qf_i h

theorem tb_X10_isTold_67 {X : mX} {n z : Nat} {G : mG} {r0 : Nat} (hr0 : is10 G r0) {x1 x3 : Int} {j2 : Option Value} {V V' : mV} {q : Nat × Int} {Q : Nat → Nat → mG → mV → Option Value → Prop} (h0 : q.1 = 0 → ∀ j2 : Option Value, T X (2) 286 67 [some (.ref r0), some (.int (iI x1)), j2, some (.int (iI q.2))] [] n z G V' Q) (h1 : q.1 = 1 → ∀ j2 : Option Value, T X (2) 286 83 [some (.ref r0), some (.int (iI x1)), j2, some (.int (iI q.2))] [] n z G V' Q) (h2 : q.1 = 2 → ∀ j2 : Option Value, T X (2) 286 91 [some (.ref r0), some (.int (iI x1)), j2, some (.int (iI q.2))] [] n z G V' Q) (h : B_X10_isTold_67 G r0 x1 x3 V = some (V', q)) : T X (2) 286 67 [some (.ref r0), some (.int (iI x1)), j2, some (.int (iI x3))] [] n z G V Q := by
  unfold B_X10_isTold_67 at h
  refine t_l fX10_isTold_67 rfl rfl rfl rfl ?_
  refine t_l fX10_isTold_68 rfl rfl rfl rfl ?_
  obtain ⟨V20, v21, e22, h⟩ := bd_some h
  refine kcX10_peopleMany fX10_isTold_69 (hr0).1 rfl (q_X10_peopleMany (hr0) e22) (by decide) ?_
  obtain ⟨g24, h⟩ := gd_some h
  obtain ⟨g25, h⟩ := gd_some h
  refine k9_ic_ge fX10_isTold_72 rfl g24 g25 (fun c23 => ?_) (fun c23 => ?_)
  · replace h := ite_t (c23) h
    cases h
    exact h2 rfl _
  · replace h := ite_f (c23) h
    refine t_l fX10_isTold_75 rfl rfl rfl rfl ?_
    refine t_l fX10_isTold_76 rfl rfl rfl rfl ?_
    obtain ⟨V26, v27, e28, h⟩ := bd_some h
    refine kcX10_isPersonTold fX10_isTold_77 (hr0).1 rfl (q_X10_isPersonTold (hr0) e28) (by decide) ?_
    obtain ⟨g30, h⟩ := gd_some h
    refine k9_if_ne fX10_isTold_80 rfl g30 (fun c29 => ?_) (fun c29 => ?_)
    · replace h := ite_f (c29) h
      replace h := lt_some h
      refine k9_iinc fX10_isTold_85 rfl (Nat.le_of_ble_eq_true rfl) rfl ?_
      refine k9_goto fX10_isTold_88 rfl ?_
      cases h
      exact h0 rfl _
    · replace h := ite_t (Classical.not_not.mp c29) h
      cases h
      exact h1 rfl _

theorem tl_X10_isTold_67 {X : mX} {n z : Nat} {G : mG} {r0 : Nat} (hr0 : is10 G r0) {x1 x3 : Int} {j2 : Option Value} {V V' : mV} {fu : Nat} {q : Nat × Int} {Q : Nat → Nat → mG → mV → Option Value → Prop} (k1 : q.1 = 1 → ∀ j2 : Option Value, T X (2) 286 83 [some (.ref r0), some (.int (iI x1)), j2, some (.int (iI q.2))] [] n z G V' Q) (k2 : q.1 = 2 → ∀ j2 : Option Value, T X (2) 286 91 [some (.ref r0), some (.int (iI x1)), j2, some (.int (iI q.2))] [] n z G V' Q) (h : lp (fun (s : Int) V => B_X10_isTold_67 G r0 x1 s V) fu x3 V = some (V', q)) : T X (2) 286 67 [some (.ref r0), some (.int (iI x1)), j2, some (.int (iI x3))] [] n z G V Q :=
  lp_go (P0 := fun s V => ∀ j2 : Option Value, T X (2) 286 67 [some (.ref r0), some (.int (iI x1)), j2, some (.int (iI s))] [] n z G V Q) (PE := fun t s V => (t = 1 → ∀ j2 : Option Value, T X (2) 286 83 [some (.ref r0), some (.int (iI x1)), j2, some (.int (iI s))] [] n z G V Q) ∧ (t = 2 → ∀ j2 : Option Value, T X (2) 286 91 [some (.ref r0), some (.int (iI x1)), j2, some (.int (iI s))] [] n z G V Q)) (fun s V V' q hb h0 h1 => fun _ => tb_X10_isTold_67 hr0  h0 (fun e => (h1 (by omega)).1 e) (fun e => (h1 (by omega)).2 e) hb) fu x3 V V' q h ⟨k1, k2⟩ _

theorem q_X10_isTold {X : mX} {n z : Nat} {G : mG} {r0 : Nat} (hr0 : is10 G r0) {x1 : Int} {V V' : mV} {v : Int} (h : F_X10_isTold G r0 x1 V = some (V', v)) : Rn X (2) 286 [.ref r0, .int (iI x1)] n z G V n z G V' (some (.int (iI v))) := by
  refine qi_toR (v := v) (L := [some (.ref r0), some (.int (iI x1)), none, none]) rfl ?_
  unfold F_X10_isTold at h
  refine t_s fX10_isTold_0 rfl rfl rfl ?_
  refine t_l fX10_isTold_1 rfl rfl rfl rfl ?_
  obtain ⟨V1, v2, e3, h⟩ := bd_some h
  refine kcX10_peopleMany fX10_isTold_2 (hr0).1 rfl (q_X10_peopleMany (hr0) e3) (by decide) ?_
  refine k9_iadd fX10_isTold_5 ?_
  replace h := lt_some h
  refine t_l fX10_isTold_6 rfl rfl rfl rfl ?_
  refine t_l fX10_isTold_7 rfl rfl rfl rfl ?_
  refine t_s fX10_isTold_8 rfl rfl rfl ?_
  refine t_l fX10_isTold_9 rfl rfl rfl rfl ?_
  refine t_l fX10_isTold_10 rfl rfl rfl rfl ?_
  obtain ⟨V5, v6, e7, h⟩ := bd_some h
  refine kcX10_peopleMany fX10_isTold_11 (hr0).1 rfl (q_X10_peopleMany (hr0) e7) (by decide) ?_
  refine k9_imul fX10_isTold_14 ?_
  refine k9_iadd fX10_isTold_15 ?_
  obtain ⟨g9, h⟩ := gd_some h
  obtain ⟨g10, h⟩ := gd_some h
  refine k9_ic_ne fX10_isTold_16 rfl g9 g10 (fun c8 => ?_) (fun c8 => ?_)
  · replace h := ite_f (c8) h
    refine t_s fX10_isTold_63 rfl rfl rfl ?_
    refine t_ret fX10_isTold_64 (rX10_isTold _ (by decide)) ?_
    exact qf_i h
  · replace h := ite_t (Classical.not_not.mp c8) h
    refine t_l fX10_isTold_19 rfl rfl rfl rfl ?_
    refine k9_gr fX10_isTold_20 (hr0).1 kg_10_0 (s10_0r hr0) ?_
    refine t_l fX10_isTold_23 rfl rfl rfl rfl ?_
    refine t_s fX10_isTold_24 rfl rfl rfl ?_
    refine k9_isub fX10_isTold_25 ?_
    obtain ⟨g11, h⟩ := gd_some h
    refine k9_ia fX10_isTold_26 (s10_0s hr0) g11.1 g11.2.1 g11.2.2 ?_
    refine t_l fX10_isTold_27 rfl rfl rfl rfl ?_
    refine k9_gr fX10_isTold_28 (hr0).1 kg_10_0 (s10_0r hr0) ?_
    refine t_l fX10_isTold_31 rfl rfl rfl rfl ?_
    refine t_s fX10_isTold_32 rfl rfl rfl ?_
    refine k9_isub fX10_isTold_33 ?_
    obtain ⟨V12, v13, e14, h⟩ := bd_some h
    refine kcX10_checked fX10_isTold_34 rfl rfl (q_X10_checked (qGf (s10_0s hr0)) e14) (by decide) ?_
    obtain ⟨g16, h⟩ := gd_some h
    obtain ⟨g17, h⟩ := gd_some h
    refine k9_ic_ne fX10_isTold_37 rfl g16 g17 (fun c15 => ?_) (fun c15 => ?_)
    · replace h := ite_f (c15) h
      refine t_s fX10_isTold_63 rfl rfl rfl ?_
      refine t_ret fX10_isTold_64 (rX10_isTold _ (by decide)) ?_
      exact qf_i h
    · replace h := ite_t (Classical.not_not.mp c15) h
      refine t_s fX10_isTold_40 rfl rfl rfl ?_
      refine t_l fX10_isTold_43 rfl rfl rfl rfl ?_
      refine k9_gr fX10_isTold_44 (hr0).1 kg_10_0 (s10_0r hr0) ?_
      refine t_s fX10_isTold_47 rfl rfl rfl ?_
      refine k9_ia fX10_isTold_48 (s10_0s hr0) (by decide) (by decide) (by decide) ?_
      refine k9_imul fX10_isTold_49 ?_
      refine t_l fX10_isTold_50 rfl rfl rfl rfl ?_
      refine k9_gr fX10_isTold_51 (hr0).1 kg_10_0 (s10_0r hr0) ?_
      refine t_s fX10_isTold_54 rfl rfl rfl ?_
      refine k9_ia fX10_isTold_55 (s10_0s hr0) (by decide) (by decide) (by decide) ?_
      refine k9_iadd fX10_isTold_56 ?_
      refine t_s fX10_isTold_57 rfl rfl rfl ?_
      obtain ⟨g19, h⟩ := gd_some h
      refine k9_ic_le fX10_isTold_60 rfl g19 ⟨by decide, by decide⟩ (fun c18 => ?_) (fun c18 => ?_)
      · replace h := ite_t (c18) h
        refine t_s fX10_isTold_65 rfl rfl rfl ?_
        refine t_l fX10_isTold_66 rfl rfl rfl rfl ?_
        obtain ⟨V32, u33, e34, h⟩ := bd_some h
        refine tl_X10_isTold_67 hr0  (fun e35 j2 => ?_) (fun e35 j2 => ?_) e34
        · replace h := ite_t e35 h
          refine t_s fX10_isTold_83 rfl rfl rfl ?_
          refine t_ret fX10_isTold_84 (rX10_isTold _ (by decide)) ?_
          exact qf_i h
        · replace h := ite_f (by omega) h
          refine t_s fX10_isTold_91 rfl rfl rfl ?_
          refine t_ret fX10_isTold_92 (rX10_isTold _ (by decide)) ?_
          exact qf_i h
      · replace h := ite_f (c18) h
        refine t_s fX10_isTold_63 rfl rfl rfl ?_
        refine t_ret fX10_isTold_64 (rX10_isTold _ (by decide)) ?_
        exact qf_i h

theorem tb_X10_on_111 {X : mX} {n z : Nat} {G : mG} {r0 : Nat} (hr0 : is10 G r0) {x2 x3 x4 : Int} {j1 : Option Value} {V V' : mV} {q : Nat × Int} {Q : Nat → Nat → mG → mV → Option Value → Prop} (h0 : q.1 = 0 → ∀ j1 : Option Value, T X (3) 287 111 [some (.ref r0), j1, some (.int (iI x2)), some (.int (iI x3)), some (.int (iI q.2))] [] n z G V' Q) (h1 : q.1 = 1 → ∀ j1 j3 : Option Value, T X (3) 287 144 [some (.ref r0), j1, some (.int (iI x2)), j3, some (.int (iI q.2))] [] n z G V' Q) (h : B_X10_on_111 G r0 x2 x3 x4 V = some (V', q)) : T X (3) 287 111 [some (.ref r0), j1, some (.int (iI x2)), some (.int (iI x3)), some (.int (iI x4))] [] n z G V Q := by
  unfold B_X10_on_111 at h
  refine t_l fX10_on_111 rfl rfl rfl rfl ?_
  refine t_l fX10_on_113 rfl rfl rfl rfl ?_
  obtain ⟨V26, v27, e28, h⟩ := bd_some h
  refine kcX10_peopleMany fX10_on_114 (hr0).1 rfl (q_X10_peopleMany (hr0) e28) (by decide) ?_
  obtain ⟨g30, h⟩ := gd_some h
  obtain ⟨g31, h⟩ := gd_some h
  refine k9_ic_ge fX10_on_117 rfl g30 g31 (fun c29 => ?_) (fun c29 => ?_)
  · replace h := ite_t (c29) h
    cases h
    exact h1 rfl _ _
  · replace h := ite_f (c29) h
    refine t_l fX10_on_120 rfl rfl rfl rfl ?_
    refine t_l fX10_on_121 rfl rfl rfl rfl ?_
    refine t_l fX10_on_122 rfl rfl rfl rfl ?_
    refine t_l fX10_on_124 rfl rfl rfl rfl ?_
    refine k9_gr fX10_on_125 (hr0).1 kg_10_0 (s10_0r hr0) ?_
    refine t_l fX10_on_128 rfl rfl rfl rfl ?_
    refine t_s fX10_on_129 rfl rfl rfl ?_
    refine k9_iadd fX10_on_130 ?_
    refine t_l fX10_on_131 rfl rfl rfl rfl ?_
    refine k9_iadd fX10_on_133 ?_
    obtain ⟨g32, h⟩ := gd_some h
    refine k9_ia fX10_on_134 (s10_0s hr0) g32.1 g32.2.1 g32.2.2 ?_
    obtain ⟨V33, v34, e35, h⟩ := bd_some h
    refine kcX10_knowsNow fX10_on_135 (hr0).1 rfl (q_X10_knowsNow (hr0) e35) (by decide) ?_
    replace h := lt_some h
    refine k9_iinc fX10_on_138 rfl (Nat.le_of_ble_eq_true rfl) rfl ?_
    refine k9_goto fX10_on_141 rfl ?_
    cases h
    exact h0 rfl _

theorem tl_X10_on_111 {X : mX} {n z : Nat} {G : mG} {r0 : Nat} (hr0 : is10 G r0) {x2 x3 x4 : Int} {j1 : Option Value} {V V' : mV} {fu : Nat} {q : Nat × Int} {Q : Nat → Nat → mG → mV → Option Value → Prop} (k1 : q.1 = 1 → ∀ j1 j3 : Option Value, T X (3) 287 144 [some (.ref r0), j1, some (.int (iI x2)), j3, some (.int (iI q.2))] [] n z G V' Q) (h : lp (fun (s : Int) V => B_X10_on_111 G r0 x2 x3 s V) fu x4 V = some (V', q)) : T X (3) 287 111 [some (.ref r0), j1, some (.int (iI x2)), some (.int (iI x3)), some (.int (iI x4))] [] n z G V Q :=
  lp_go (P0 := fun s V => ∀ j1 : Option Value, T X (3) 287 111 [some (.ref r0), j1, some (.int (iI x2)), some (.int (iI x3)), some (.int (iI s))] [] n z G V Q) (PE := fun t s V => (t = 1 → ∀ j1 j3 : Option Value, T X (3) 287 144 [some (.ref r0), j1, some (.int (iI x2)), j3, some (.int (iI s))] [] n z G V Q)) (fun s V V' q hb h0 h1 => fun _ => tb_X10_on_111 hr0  h0 (fun e => (h1 (by omega)) e) hb) fu x4 V V' q h k1 _

theorem tb_X10_on_55 {X : mX} {n z : Nat} {G : mG} {r0 : Nat} (hr0 : is10 G r0) {x2 : Int} {j1 j3 j4 : Option Value} {V V' : mV} {q : Nat × Int} {Q : Nat → Nat → mG → mV → Option Value → Prop} (h0 : q.1 = 0 → ∀ j1 j3 j4 : Option Value, T X (3) 287 55 [some (.ref r0), j1, some (.int (iI q.2)), j3, j4] [] n z G V' Q) (h1 : q.1 = 1 → ∀ j1 j3 j4 : Option Value, T X (3) 287 150 [some (.ref r0), j1, some (.int (iI q.2)), j3, j4] [] n z G V' Q) (h : B_X10_on_55 G r0 x2 V = some (V', q)) : T X (3) 287 55 [some (.ref r0), j1, some (.int (iI x2)), j3, j4] [] n z G V Q := by
  unfold B_X10_on_55 at h
  refine t_l fX10_on_55 rfl rfl rfl rfl ?_
  refine t_l fX10_on_56 rfl rfl rfl rfl ?_
  obtain ⟨V9, v10, e11, h⟩ := bd_some h
  refine kcX10_peopleMany fX10_on_57 (hr0).1 rfl (q_X10_peopleMany (hr0) e11) (by decide) ?_
  obtain ⟨g13, h⟩ := gd_some h
  obtain ⟨g14, h⟩ := gd_some h
  refine k9_ic_ge fX10_on_60 rfl g13 g14 (fun c12 => ?_) (fun c12 => ?_)
  · replace h := ite_t (c12) h
    cases h
    exact h1 rfl _ _ _
  · replace h := ite_f (c12) h
    refine t_s fX10_on_63 rfl rfl rfl ?_
    refine t_s fX10_on_64 rfl rfl rfl ?_
    refine t_l fX10_on_65 rfl rfl rfl rfl ?_
    obtain ⟨V15, v16, e17, h⟩ := bd_some h
    refine kcX10_peopleMany fX10_on_66 (hr0).1 rfl (q_X10_peopleMany (hr0) e17) (by decide) ?_
    refine k9_iadd fX10_on_69 ?_
    refine t_l fX10_on_70 rfl rfl rfl rfl ?_
    refine k9_imul fX10_on_71 ?_
    refine k9_iadd fX10_on_72 ?_
    replace h := lt_some h
    refine t_l fX10_on_73 rfl rfl rfl rfl ?_
    refine t_l fX10_on_74 rfl rfl rfl rfl ?_
    refine t_l fX10_on_75 rfl rfl rfl rfl ?_
    refine t_l fX10_on_76 rfl rfl rfl rfl ?_
    refine k9_gr fX10_on_77 (hr0).1 kg_10_0 (s10_0r hr0) ?_
    refine t_l fX10_on_80 rfl rfl rfl rfl ?_
    obtain ⟨g19, h⟩ := gd_some h
    refine k9_ia fX10_on_81 (s10_0s hr0) g19.1 g19.2.1 g19.2.2 ?_
    refine t_s fX10_on_82 rfl rfl rfl ?_
    refine k9_isub fX10_on_83 ?_
    obtain ⟨V20, v21, e22, h⟩ := bd_some h
    refine kcX10_liveNow fX10_on_84 (hr0).1 rfl (q_X10_liveNow (hr0) e22) (by decide) ?_
    refine t_l fX10_on_87 rfl rfl rfl rfl ?_
    refine k9_gr fX10_on_88 (hr0).1 kg_10_49 (s10_49r hr0) ?_
    refine t_s fX10_on_91 rfl rfl rfl ?_
    refine t_s fX10_on_92 rfl rfl rfl ?_
    refine t_l fX10_on_94 rfl rfl rfl rfl ?_
    refine k9_imul fX10_on_95 ?_
    refine k9_iadd fX10_on_96 ?_
    refine t_l fX10_on_97 rfl rfl rfl rfl ?_
    refine k9_gr fX10_on_98 (hr0).1 kg_10_0 (s10_0r hr0) ?_
    refine t_l fX10_on_101 rfl rfl rfl rfl ?_
    refine t_s fX10_on_102 rfl rfl rfl ?_
    refine k9_iadd fX10_on_103 ?_
    obtain ⟨g23, h⟩ := gd_some h
    refine k9_ia fX10_on_104 (s10_0s hr0) g23.1 g23.2.1 g23.2.2 ?_
    refine t_s fX10_on_105 rfl rfl rfl ?_
    refine k9_isub fX10_on_106 ?_
    obtain ⟨g24, h⟩ := gd_some h
    refine k9_is fX10_on_107 (s10_49s hr0) g24.1 g24.2.1 g24.2.2 ?_
    replace h := lt_some h
    refine t_s fX10_on_108 rfl rfl rfl ?_
    refine t_l fX10_on_109 rfl rfl rfl rfl ?_
    obtain ⟨V37, u38, e39, h⟩ := bd_some h
    refine tl_X10_on_111 hr0  (fun e40 j1 j3 => ?_) e39
    replace h := lt_some h
    refine k9_iinc fX10_on_144 rfl (Nat.le_of_ble_eq_true rfl) rfl ?_
    refine k9_goto fX10_on_147 rfl ?_
    cases h
    exact h0 rfl _ _ _

theorem tl_X10_on_55 {X : mX} {n z : Nat} {G : mG} {r0 : Nat} (hr0 : is10 G r0) {x2 : Int} {j1 j3 j4 : Option Value} {V V' : mV} {fu : Nat} {q : Nat × Int} {Q : Nat → Nat → mG → mV → Option Value → Prop} (k1 : q.1 = 1 → ∀ j1 j3 j4 : Option Value, T X (3) 287 150 [some (.ref r0), j1, some (.int (iI q.2)), j3, j4] [] n z G V' Q) (h : lp (fun (s : Int) V => B_X10_on_55 G r0 s V) fu x2 V = some (V', q)) : T X (3) 287 55 [some (.ref r0), j1, some (.int (iI x2)), j3, j4] [] n z G V Q :=
  lp_go (P0 := fun s V => ∀ j1 j3 j4 : Option Value, T X (3) 287 55 [some (.ref r0), j1, some (.int (iI s)), j3, j4] [] n z G V Q) (PE := fun t s V => (t = 1 → ∀ j1 j3 j4 : Option Value, T X (3) 287 150 [some (.ref r0), j1, some (.int (iI s)), j3, j4] [] n z G V Q)) (fun s V V' q hb h0 h1 => fun _ _ _ => tb_X10_on_55 hr0  h0 (fun e => (h1 (by omega)) e) hb) fu x2 V V' q h k1 _ _ _

theorem q_X10_on {X : mX} {n z : Nat} {G : mG} {r0 : Nat} (hr0 : is10 G r0) {V V' : mV} {v : Int} (h : F_X10_on G r0 V = some (V', v)) : Rn X (3) 287 [.ref r0] n z G V n z G V' (some (.int (iI v))) := by
  refine qi_toR (v := v) (L := [some (.ref r0), none, none, none, none]) rfl ?_
  unfold F_X10_on at h
  refine t_l fX10_on_0 rfl rfl rfl rfl ?_
  refine k9_gi fX10_on_1 (hr0).1 kg_10_1 ?_
  replace h := lt_some h
  refine t_l fX10_on_4 rfl rfl rfl rfl ?_
  refine t_l fX10_on_5 rfl rfl rfl rfl ?_
  refine t_s fX10_on_6 rfl rfl rfl ?_
  refine k9_pi fX10_on_7 (hr0).1 kp_10_1 ?_
  replace h := lt_some h
  refine t_l fX10_on_10 rfl rfl rfl rfl ?_
  refine t_l fX10_on_11 rfl rfl rfl rfl ?_
  obtain ⟨V3, v4, e5, h⟩ := bd_some h
  refine kcX10_isTold fX10_on_12 (hr0).1 rfl (q_X10_isTold (hr0) e5) (by decide) ?_
  obtain ⟨g7, h⟩ := gd_some h
  refine k9_if_ne fX10_on_15 rfl g7 (fun c6 => ?_) (fun c6 => ?_)
  · replace h := ite_f (c6) h
    refine t_l fX10_on_30 rfl rfl rfl rfl ?_
    refine k9_gr fX10_on_31 (hr0).1 kg_10_49 (s10_49r hr0) ?_
    refine t_s fX10_on_34 rfl rfl rfl ?_
    refine t_s fX10_on_35 rfl rfl rfl ?_
    refine t_l fX10_on_38 rfl rfl rfl rfl ?_
    refine k9_gr fX10_on_39 (hr0).1 kg_10_0 (s10_0r hr0) ?_
    refine t_s fX10_on_42 rfl rfl rfl ?_
    refine k9_ia fX10_on_43 (s10_0s hr0) (by decide) (by decide) (by decide) ?_
    refine k9_imul fX10_on_44 ?_
    refine t_l fX10_on_45 rfl rfl rfl rfl ?_
    refine k9_gr fX10_on_46 (hr0).1 kg_10_0 (s10_0r hr0) ?_
    refine t_s fX10_on_49 rfl rfl rfl ?_
    refine k9_ia fX10_on_50 (s10_0s hr0) (by decide) (by decide) (by decide) ?_
    refine k9_iadd fX10_on_51 ?_
    refine k9_is fX10_on_52 (s10_49s hr0) (by decide) (by decide) (by decide) ?_
    replace h := lt_some h
    refine t_s fX10_on_53 rfl rfl rfl ?_
    refine t_l fX10_on_54 rfl rfl rfl rfl ?_
    obtain ⟨V42, u43, e44, h⟩ := bd_some h
    refine tl_X10_on_55 hr0  (fun e45 j1 j3 j4 => ?_) e44
    refine t_l fX10_on_150 rfl rfl rfl rfl ?_
    refine k9_gr fX10_on_151 (hr0).1 kg_10_49 (s10_49r hr0) ?_
    refine t_s fX10_on_154 rfl rfl rfl ?_
    refine t_s fX10_on_156 rfl rfl rfl ?_
    refine k9_is fX10_on_157 (s10_49s hr0) (by decide) (by decide) (by decide) ?_
    replace h := lt_some h
    refine t_l fX10_on_158 rfl rfl rfl rfl ?_
    refine t_s fX10_on_159 rfl rfl rfl ?_
    refine k9_pi fX10_on_160 (hr0).1 kp_10_69 ?_
    replace h := lt_some h
    refine t_s fX10_on_163 rfl rfl rfl ?_
    refine t_ret fX10_on_164 (rX10_on _ (by decide)) ?_
    exact qf_i h
  · replace h := ite_t (Classical.not_not.mp c6) h
    refine t_l fX10_on_18 rfl rfl rfl rfl ?_
    refine k9_gr fX10_on_19 (hr0).1 kg_10_9 (s10_9r hr0) ?_
    refine t_s fX10_on_22 rfl rfl rfl ?_
    refine t_s fX10_on_23 rfl rfl rfl ?_
    refine k9_ia fX10_on_24 (s10_9s hr0) (by decide) (by decide) (by decide) ?_
    refine t_s fX10_on_25 rfl rfl rfl ?_
    refine k9_iadd fX10_on_26 ?_
    refine k9_is fX10_on_27 (s10_9s hr0) (by decide) (by decide) (by decide) ?_
    replace h := lt_some h
    refine t_s fX10_on_28 rfl rfl rfl ?_
    refine t_ret fX10_on_29 (rX10_on _ (by decide)) ?_
    exact qf_i h

theorem q_X10_status {X : mX} {n z : Nat} {G : mG} {r0 : Nat} (hr0 : is10 G r0) {x1 : Int} {V V' : mV} {v : Int} (h : F_X10_status G r0 x1 V = some (V', v)) : Rn X (1) 288 [.ref r0, .int (iI x1)] n z G V n z G V' (some (.int (iI v))) := by
  refine qi_toR (v := v) (L := [some (.ref r0), some (.int (iI x1))]) rfl ?_
  unfold F_X10_status at h
  refine t_l fX10_status_0 rfl rfl rfl rfl ?_
  obtain ⟨g1, h⟩ := gd_some h
  refine k9_i2l fX10_status_1 g1 ?_
  refine t_s fX10_status_2 rfl rfl rfl ?_
  refine t_s fX10_status_3 rfl rfl rfl ?_
  obtain ⟨V2, v3, e4, h⟩ := bd_some h
  refine kcX10_isIn fX10_status_6 rfl (q_X10_isIn  e4) (by decide) ?_
  obtain ⟨g6, h⟩ := gd_some h
  refine k9_if_eq fX10_status_9 rfl g6 (fun c5 => ?_) (fun c5 => ?_)
  · replace h := ite_t (c5) h
    refine t_s fX10_status_21 rfl rfl rfl ?_
    refine t_ret fX10_status_22 rX10_status ?_
    exact qf_i h
  · replace h := ite_f (c5) h
    refine t_l fX10_status_12 rfl rfl rfl rfl ?_
    refine k9_gr fX10_status_13 (hr0).1 kg_10_9 (s10_9r hr0) ?_
    refine t_l fX10_status_16 rfl rfl rfl rfl ?_
    obtain ⟨g7, h⟩ := gd_some h
    refine k9_ia fX10_status_17 (s10_9s hr0) g7.1 g7.2.1 g7.2.2 ?_
    refine k9_goto fX10_status_18 rfl ?_
    refine t_ret fX10_status_22 rX10_status ?_
    exact qf_i h


theorem tj_X9_letter_J11 {X : mX} {n z : Nat} {G : mG} {r0 : Nat} (hr0 : is9 G r0) {x1 x2 x3 : Int} {j4 : Option Value} {V V' : mV} {v : Int} (h : F_X9_letter_J11 G r0 x1 x2 x3 V = some (V', v)) : T X (1) 114 11 [some (.ref r0), some (.int (iI x1)), some (.int (iI x2)), some (.int (iI x3)), j4] [] n z G V (qi n z G V' v) := by
  unfold F_X9_letter_J11 at h
  refine t_l fX9_letter_11 rfl rfl rfl rfl ?_
  obtain ⟨g4, h⟩ := gd_some h
  refine k9_if_ne fX9_letter_12 rfl g4 (fun c3 => ?_) (fun c3 => ?_)
  · replace h := ite_f (c3) h
    refine t_l fX9_letter_25 rfl rfl rfl rfl ?_
    refine k9_gr fX9_letter_26 (hr0).1 kg_9_10 (s9_10r hr0) ?_
    refine k9_gr fX9_letter_29 (s9_10s hr0).1 kg_1_5 (s1_5r (s9_10s hr0)) ?_
    refine t_l fX9_letter_32 rfl rfl rfl rfl ?_
    refine t_l fX9_letter_34 rfl rfl rfl rfl ?_
    obtain ⟨g6, h⟩ := gd_some h
    refine k9_if_lt fX9_letter_35 rfl g6 (fun c5 => ?_) (fun c5 => ?_)
    · replace h := ite_t (c5) h
      refine t_s fX9_letter_57 rfl rfl rfl ?_
      refine t_ret fX9_letter_58 rX9_letter ?_
      exact qf_i h
    · replace h := ite_f (c5) h
      refine t_l fX9_letter_38 rfl rfl rfl rfl ?_
      refine t_l fX9_letter_39 rfl rfl rfl rfl ?_
      obtain ⟨V7, v8, e9, h⟩ := bd_some h
      refine kcX7_size fX9_letter_41 (s1_5s (s9_10s hr0)).1 rfl (q_X7_size (s1_5s (s9_10s hr0)) e9) (by decide) ?_
      obtain ⟨g11, h⟩ := gd_some h
      refine k9_ic_ge fX9_letter_44 rfl g6 g11 (fun c10 => ?_) (fun c10 => ?_)
      · replace h := ite_t (c10) h
        refine t_s fX9_letter_57 rfl rfl rfl ?_
        refine t_ret fX9_letter_58 rX9_letter ?_
        exact qf_i h
      · replace h := ite_f (c10) h
        refine t_l fX9_letter_47 rfl rfl rfl rfl ?_
        obtain ⟨g13, h⟩ := gd_some h
        refine k9_if_lt fX9_letter_48 rfl g13 (fun c12 => ?_) (fun c12 => ?_)
        · replace h := ite_t (c12) h
          refine t_s fX9_letter_57 rfl rfl rfl ?_
          refine t_ret fX9_letter_58 rX9_letter ?_
          exact qf_i h
        · replace h := ite_f (c12) h
          refine t_l fX9_letter_51 rfl rfl rfl rfl ?_
          refine t_s fX9_letter_52 rfl rfl rfl ?_
          refine k9_ic_lt fX9_letter_54 rfl g13 ⟨by decide, by decide⟩ (fun c14 => ?_) (fun c14 => ?_)
          · replace h := ite_t (c14) h
            refine t_l fX9_letter_59 rfl rfl rfl rfl ?_
            refine t_l fX9_letter_61 rfl rfl rfl rfl ?_
            obtain ⟨V15, v16, e17, h⟩ := bd_some h
            refine kcX7_get fX9_letter_62 (s1_5s (s9_10s hr0)).1 rfl (q_X7_get (s1_5s (s9_10s hr0)) e17) (by decide) ?_
            refine t_s fX9_letter_65 rfl rfl rfl ?_
            refine t_l fX9_letter_66 rfl rfl rfl rfl ?_
            refine k9_imul fX9_letter_67 ?_
            obtain ⟨g18, h⟩ := gd_some h
            obtain ⟨g19, h⟩ := gd_some h
            refine k8_ishr fX9_letter_68 g18 g19 ?_
            refine t_s fX9_letter_69 rfl rfl rfl ?_
            refine k8_iand32 fX9_letter_71 ?_
            refine t_ret fX9_letter_72 rX9_letter ?_
            exact qf_i h
          · replace h := ite_f (c14) h
            refine t_s fX9_letter_57 rfl rfl rfl ?_
            refine t_ret fX9_letter_58 rX9_letter ?_
            exact qf_i h
  · replace h := ite_t (Classical.not_not.mp c3) h
    refine t_l fX9_letter_15 rfl rfl rfl rfl ?_
    refine k9_gr fX9_letter_16 (hr0).1 kg_9_10 (s9_10r hr0) ?_
    refine k9_gr fX9_letter_19 (s9_10s hr0).1 kg_1_0 (s1_0r (s9_10s hr0)) ?_
    refine k9_goto fX9_letter_22 rfl ?_
    refine t_l fX9_letter_32 rfl rfl rfl rfl ?_
    refine t_l fX9_letter_34 rfl rfl rfl rfl ?_
    obtain ⟨g21, h⟩ := gd_some h
    refine k9_if_lt fX9_letter_35 rfl g21 (fun c20 => ?_) (fun c20 => ?_)
    · replace h := ite_t (c20) h
      refine t_s fX9_letter_57 rfl rfl rfl ?_
      refine t_ret fX9_letter_58 rX9_letter ?_
      exact qf_i h
    · replace h := ite_f (c20) h
      refine t_l fX9_letter_38 rfl rfl rfl rfl ?_
      refine t_l fX9_letter_39 rfl rfl rfl rfl ?_
      obtain ⟨V22, v23, e24, h⟩ := bd_some h
      refine kcX7_size fX9_letter_41 (s1_0s (s9_10s hr0)).1 rfl (q_X7_size (s1_0s (s9_10s hr0)) e24) (by decide) ?_
      obtain ⟨g26, h⟩ := gd_some h
      refine k9_ic_ge fX9_letter_44 rfl g21 g26 (fun c25 => ?_) (fun c25 => ?_)
      · replace h := ite_t (c25) h
        refine t_s fX9_letter_57 rfl rfl rfl ?_
        refine t_ret fX9_letter_58 rX9_letter ?_
        exact qf_i h
      · replace h := ite_f (c25) h
        refine t_l fX9_letter_47 rfl rfl rfl rfl ?_
        obtain ⟨g28, h⟩ := gd_some h
        refine k9_if_lt fX9_letter_48 rfl g28 (fun c27 => ?_) (fun c27 => ?_)
        · replace h := ite_t (c27) h
          refine t_s fX9_letter_57 rfl rfl rfl ?_
          refine t_ret fX9_letter_58 rX9_letter ?_
          exact qf_i h
        · replace h := ite_f (c27) h
          refine t_l fX9_letter_51 rfl rfl rfl rfl ?_
          refine t_s fX9_letter_52 rfl rfl rfl ?_
          refine k9_ic_lt fX9_letter_54 rfl g28 ⟨by decide, by decide⟩ (fun c29 => ?_) (fun c29 => ?_)
          · replace h := ite_t (c29) h
            refine t_l fX9_letter_59 rfl rfl rfl rfl ?_
            refine t_l fX9_letter_61 rfl rfl rfl rfl ?_
            obtain ⟨V30, v31, e32, h⟩ := bd_some h
            refine kcX7_get fX9_letter_62 (s1_0s (s9_10s hr0)).1 rfl (q_X7_get (s1_0s (s9_10s hr0)) e32) (by decide) ?_
            refine t_s fX9_letter_65 rfl rfl rfl ?_
            refine t_l fX9_letter_66 rfl rfl rfl rfl ?_
            refine k9_imul fX9_letter_67 ?_
            obtain ⟨g33, h⟩ := gd_some h
            obtain ⟨g34, h⟩ := gd_some h
            refine k8_ishr fX9_letter_68 g33 g34 ?_
            refine t_s fX9_letter_69 rfl rfl rfl ?_
            refine k8_iand32 fX9_letter_71 ?_
            refine t_ret fX9_letter_72 rX9_letter ?_
            exact qf_i h
          · replace h := ite_f (c29) h
            refine t_s fX9_letter_57 rfl rfl rfl ?_
            refine t_ret fX9_letter_58 rX9_letter ?_
            exact qf_i h

theorem q_X9_letter {X : mX} {n z : Nat} {G : mG} {r0 : Nat} (hr0 : is9 G r0) {x1 x2 x3 : Int} {V V' : mV} {v : Int} (h : F_X9_letter G r0 x1 x2 x3 V = some (V', v)) : Rn X (1) 114 [.ref r0, .int (iI x1), .int (iI x2), .int (iI x3)] n z G V n z G V' (some (.int (iI v))) := by
  refine qi_toR (v := v) (L := [some (.ref r0), some (.int (iI x1)), some (.int (iI x2)), some (.int (iI x3)), none]) rfl ?_
  unfold F_X9_letter at h
  refine t_l fX9_letter_0 rfl rfl rfl rfl ?_
  obtain ⟨g2, h⟩ := gd_some h
  refine k9_if_eq fX9_letter_1 rfl g2 (fun c1 => ?_) (fun c1 => ?_)
  · replace h := ite_t (c1) h
    exact tj_X9_letter_J11 hr0   h
  · replace h := ite_f (c1) h
    refine t_l fX9_letter_4 rfl rfl rfl rfl ?_
    refine t_s fX9_letter_5 rfl rfl rfl ?_
    refine k9_ic_eq fX9_letter_6 rfl g2 ⟨by decide, by decide⟩ (fun c35 => ?_) (fun c35 => ?_)
    · replace h := ite_t (c35) h
      exact tj_X9_letter_J11 hr0   h
    · replace h := ite_f (c35) h
      refine t_s fX9_letter_9 rfl rfl rfl ?_
      refine t_ret fX9_letter_10 rX9_letter ?_
      exact qf_i h

theorem q_X9_isPerson {X : mX} {n z : Nat} {G : mG} {r0 : Nat} (hr0 : is9 G r0) {x1 : Int} {V V' : mV} {v : Int} (h : F_X9_isPerson G r0 x1 V = some (V', v)) : Rn X (1) 142 [.ref r0, .int (iI x1)] n z G V n z G V' (some (.int (iI v))) := by
  refine qi_toR (v := v) (L := [some (.ref r0), some (.int (iI x1))]) rfl ?_
  unfold F_X9_isPerson at h
  refine t_l fX9_isPerson_0 rfl rfl rfl rfl ?_
  obtain ⟨g2, h⟩ := gd_some h
  refine k9_if_lt fX9_isPerson_1 rfl g2 (fun c1 => ?_) (fun c1 => ?_)
  · replace h := ite_t (c1) h
    refine t_s fX9_isPerson_22 rfl rfl rfl ?_
    refine t_ret fX9_isPerson_23 (rX9_isPerson _ (by decide)) ?_
    exact qf_i h
  · replace h := ite_f (c1) h
    refine t_l fX9_isPerson_4 rfl rfl rfl rfl ?_
    refine t_l fX9_isPerson_5 rfl rfl rfl rfl ?_
    refine k9_gr fX9_isPerson_6 (hr0).1 kg_9_10 (s9_10r hr0) ?_
    refine k9_gr fX9_isPerson_9 (s9_10s hr0).1 kg_1_0 (s1_0r (s9_10s hr0)) ?_
    obtain ⟨V3, v4, e5, h⟩ := bd_some h
    refine kcX7_size fX9_isPerson_12 (s1_0s (s9_10s hr0)).1 rfl (q_X7_size (s1_0s (s9_10s hr0)) e5) (by decide) ?_
    obtain ⟨g7, h⟩ := gd_some h
    refine k9_ic_ge fX9_isPerson_15 rfl g2 g7 (fun c6 => ?_) (fun c6 => ?_)
    · replace h := ite_t (c6) h
      refine t_s fX9_isPerson_22 rfl rfl rfl ?_
      refine t_ret fX9_isPerson_23 (rX9_isPerson _ (by decide)) ?_
      exact qf_i h
    · replace h := ite_f (c6) h
      refine t_s fX9_isPerson_18 rfl rfl rfl ?_
      refine k9_goto fX9_isPerson_19 rfl ?_
      refine t_ret fX9_isPerson_23 (rX9_isPerson _ (by decide)) ?_
      exact qf_i h

theorem q_X9_person {X : mX} {n z : Nat} {G : mG} {r0 : Nat} (hr0 : is9 G r0) {x1 x2 : Int} {V V' : mV} {v : Int} (h : F_X9_person G r0 x1 x2 V = some (V', v)) : Rn X (2) 115 [.ref r0, .int (iI x1), .int (iI x2)] n z G V n z G V' (some (.int (iI v))) := by
  refine qi_toR (v := v) (L := [some (.ref r0), some (.int (iI x1)), some (.int (iI x2))]) rfl ?_
  unfold F_X9_person at h
  refine t_l fX9_person_0 rfl rfl rfl rfl ?_
  refine t_l fX9_person_1 rfl rfl rfl rfl ?_
  obtain ⟨V1, v2, e3, h⟩ := bd_some h
  refine kcX9_isPerson fX9_person_2 (hr0).1 rfl (q_X9_isPerson (hr0) e3) (by decide) ?_
  obtain ⟨g5, h⟩ := gd_some h
  refine k9_if_ne fX9_person_5 rfl g5 (fun c4 => ?_) (fun c4 => ?_)
  · replace h := ite_f (c4) h
    refine t_l fX9_person_10 rfl rfl rfl rfl ?_
    obtain ⟨g6, h⟩ := gd_some h
    by_cases c7 : x2 = 0
    · replace h := ite_t c7 h
      refine k9_sw 52 fX9_person_11 g6 (by rw [c7]; rfl) (by rw [c7]; exact Or.inr (Or.inr rfl)) ?_
      refine t_l fX9_person_52 rfl rfl rfl rfl ?_
      refine k9_gr fX9_person_53 (hr0).1 kg_9_10 (s9_10r hr0) ?_
      refine k9_gr fX9_person_56 (s9_10s hr0).1 kg_1_1 (s1_1r (s9_10s hr0)) ?_
      refine t_l fX9_person_59 rfl rfl rfl rfl ?_
      obtain ⟨V8, v9, e10, h⟩ := bd_some h
      refine kcX7_get fX9_person_60 (s1_1s (s9_10s hr0)).1 rfl (q_X7_get (s1_1s (s9_10s hr0)) e10) (by decide) ?_
      refine t_ret fX9_person_63 rX9_person ?_
      exact qf_i h
    replace h := ite_f c7 h
    by_cases c11 : x2 = 1
    · replace h := ite_t c11 h
      refine k9_sw 64 fX9_person_11 g6 (by rw [c11]; rfl) (by rw [c11]; exact Or.inr (Or.inr rfl)) ?_
      refine t_l fX9_person_64 rfl rfl rfl rfl ?_
      refine k9_gr fX9_person_65 (hr0).1 kg_9_8 (s9_8r hr0) ?_
      refine k9_gr fX9_person_68 (s9_8s hr0).1 kg_4_1 (s4_1r (s9_8s hr0)) ?_
      refine t_l fX9_person_71 rfl rfl rfl rfl ?_
      obtain ⟨V12, v13, e14, h⟩ := bd_some h
      refine kcX7_get fX9_person_72 (s4_1s (s9_8s hr0)).1 rfl (q_X7_get (s4_1s (s9_8s hr0)) e14) (by decide) ?_
      refine t_ret fX9_person_75 rX9_person ?_
      exact qf_i h
    replace h := ite_f c11 h
    by_cases c15 : x2 = 2
    · replace h := ite_t c15 h
      refine k9_sw 76 fX9_person_11 g6 (by rw [c15]; rfl) (by rw [c15]; exact Or.inr (Or.inr rfl)) ?_
      refine t_l fX9_person_76 rfl rfl rfl rfl ?_
      refine k9_gr fX9_person_77 (hr0).1 kg_9_8 (s9_8r hr0) ?_
      refine k9_gr fX9_person_80 (s9_8s hr0).1 kg_4_2 (s4_2r (s9_8s hr0)) ?_
      refine t_l fX9_person_83 rfl rfl rfl rfl ?_
      obtain ⟨V16, v17, e18, h⟩ := bd_some h
      refine kcX7_get fX9_person_84 (s4_2s (s9_8s hr0)).1 rfl (q_X7_get (s4_2s (s9_8s hr0)) e18) (by decide) ?_
      refine t_ret fX9_person_87 rX9_person ?_
      exact qf_i h
    replace h := ite_f c15 h
    by_cases c19 : x2 = 3
    · replace h := ite_t c19 h
      refine k9_sw 88 fX9_person_11 g6 (by rw [c19]; rfl) (by rw [c19]; exact Or.inr (Or.inr rfl)) ?_
      refine t_l fX9_person_88 rfl rfl rfl rfl ?_
      refine k9_gr fX9_person_89 (hr0).1 kg_9_10 (s9_10r hr0) ?_
      refine k9_gr fX9_person_92 (s9_10s hr0).1 kg_1_2 (s1_2r (s9_10s hr0)) ?_
      refine t_l fX9_person_95 rfl rfl rfl rfl ?_
      obtain ⟨V20, v21, e22, h⟩ := bd_some h
      refine kcX7_get fX9_person_96 (s1_2s (s9_10s hr0)).1 rfl (q_X7_get (s1_2s (s9_10s hr0)) e22) (by decide) ?_
      refine t_ret fX9_person_99 rX9_person ?_
      exact qf_i h
    replace h := ite_f c19 h
    by_cases c23 : x2 = 4
    · replace h := ite_t c23 h
      refine k9_sw 100 fX9_person_11 g6 (by rw [c23]; rfl) (by rw [c23]; exact Or.inr (Or.inr rfl)) ?_
      refine t_l fX9_person_100 rfl rfl rfl rfl ?_
      refine k9_gr fX9_person_101 (hr0).1 kg_9_10 (s9_10r hr0) ?_
      refine k9_gr fX9_person_104 (s9_10s hr0).1 kg_1_3 (s1_3r (s9_10s hr0)) ?_
      refine t_l fX9_person_107 rfl rfl rfl rfl ?_
      obtain ⟨V24, v25, e26, h⟩ := bd_some h
      refine kcX7_get fX9_person_108 (s1_3s (s9_10s hr0)).1 rfl (q_X7_get (s1_3s (s9_10s hr0)) e26) (by decide) ?_
      refine t_ret fX9_person_111 rX9_person ?_
      exact qf_i h
    replace h := ite_f c23 h
    by_cases c27 : x2 = 5
    · replace h := ite_t c27 h
      refine k9_sw 112 fX9_person_11 g6 (by rw [c27]; rfl) (by rw [c27]; exact Or.inr (Or.inr rfl)) ?_
      refine t_l fX9_person_112 rfl rfl rfl rfl ?_
      refine k9_gr fX9_person_113 (hr0).1 kg_9_10 (s9_10r hr0) ?_
      refine k9_gr fX9_person_116 (s9_10s hr0).1 kg_1_7 (s1_7r (s9_10s hr0)) ?_
      refine t_l fX9_person_119 rfl rfl rfl rfl ?_
      obtain ⟨V28, v29, e30, h⟩ := bd_some h
      refine kcX7_count fX9_person_120 (s1_7s (s9_10s hr0)).1 rfl (q_X7_count (s1_7s (s9_10s hr0)) e30) (by decide) ?_
      refine t_ret fX9_person_123 rX9_person ?_
      exact qf_i h
    replace h := ite_f c27 h
    by_cases c31 : x2 = 6
    · replace h := ite_t c31 h
      refine k9_sw 124 fX9_person_11 g6 (by rw [c31]; rfl) (by rw [c31]; exact Or.inr (Or.inr rfl)) ?_
      refine t_l fX9_person_124 rfl rfl rfl rfl ?_
      refine k9_gr fX9_person_125 (hr0).1 kg_9_8 (s9_8r hr0) ?_
      refine k9_gr fX9_person_128 (s9_8s hr0).1 kg_4_1 (s4_1r (s9_8s hr0)) ?_
      refine t_l fX9_person_131 rfl rfl rfl rfl ?_
      obtain ⟨V32, v33, e34, h⟩ := bd_some h
      refine kcX7_find fX9_person_132 (s4_1s (s9_8s hr0)).1 rfl (q_X7_find (s4_1s (s9_8s hr0)) e34) (by decide) ?_
      refine t_ret fX9_person_135 rX9_person ?_
      exact qf_i h
    replace h := ite_f c31 h
    have hd11 : (x2 < 0 ∨ 6 < x2) := by omega
    refine k9_sw 136 fX9_person_11 g6 (by rw [if_pos hd11]; rfl) (by omega) ?_
    refine t_s fX9_person_136 rfl rfl rfl ?_
    refine t_ret fX9_person_137 rX9_person ?_
    exact qf_i h
  · replace h := ite_t (Classical.not_not.mp c4) h
    refine t_s fX9_person_8 rfl rfl rfl ?_
    refine t_ret fX9_person_9 rX9_person ?_
    exact qf_i h

theorem q_X9_points {X : mX} {n z : Nat} {G : mG} {r0 : Nat} (hr0 : is9 G r0) {x1 x2 : Int} {V V' : mV} {v : Int} (h : F_X9_points G r0 x1 x2 V = some (V', v)) : Rn X (2) 116 [.ref r0, .int (iI x1), .int (iI x2)] n z G V n z G V' (some (.int (iI v))) := by
  refine qi_toR (v := v) (L := [some (.ref r0), some (.int (iI x1)), some (.int (iI x2))]) rfl ?_
  unfold F_X9_points at h
  refine t_l fX9_points_0 rfl rfl rfl rfl ?_
  refine t_l fX9_points_1 rfl rfl rfl rfl ?_
  obtain ⟨V1, v2, e3, h⟩ := bd_some h
  refine kcX9_isPerson fX9_points_2 (hr0).1 rfl (q_X9_isPerson (hr0) e3) (by decide) ?_
  obtain ⟨g5, h⟩ := gd_some h
  refine k9_if_eq fX9_points_5 rfl g5 (fun c4 => ?_) (fun c4 => ?_)
  · replace h := ite_t (c4) h
    refine t_s fX9_points_28 rfl rfl rfl ?_
    refine t_ret fX9_points_29 rX9_points ?_
    exact qf_i h
  · replace h := ite_f (c4) h
    refine t_l fX9_points_8 rfl rfl rfl rfl ?_
    refine t_l fX9_points_9 rfl rfl rfl rfl ?_
    obtain ⟨V6, v7, e8, h⟩ := bd_some h
    refine kcX9_isPerson fX9_points_10 (hr0).1 rfl (q_X9_isPerson (hr0) e8) (by decide) ?_
    obtain ⟨g10, h⟩ := gd_some h
    refine k9_if_eq fX9_points_13 rfl g10 (fun c9 => ?_) (fun c9 => ?_)
    · replace h := ite_t (c9) h
      refine t_s fX9_points_28 rfl rfl rfl ?_
      refine t_ret fX9_points_29 rX9_points ?_
      exact qf_i h
    · replace h := ite_f (c9) h
      refine t_l fX9_points_16 rfl rfl rfl rfl ?_
      refine k9_gr fX9_points_17 (hr0).1 kg_9_8 (s9_8r hr0) ?_
      refine t_l fX9_points_20 rfl rfl rfl rfl ?_
      refine t_l fX9_points_21 rfl rfl rfl rfl ?_
      obtain ⟨V11, v12, e13, h⟩ := bd_some h
      refine kcX4_pointsOf fX9_points_22 (s9_8s hr0).1 rfl (q_X4_pointsOf (s9_8s hr0) e13) (by decide) ?_
      refine k9_goto fX9_points_25 rfl ?_
      refine t_ret fX9_points_29 rX9_points ?_
      exact qf_i h

theorem q_X9_isClock {X : mX} {n z : Nat} {G : mG} {r0 : Nat} (hr0 : is9 G r0) {x1 : Int} {V V' : mV} {v : Int} (h : F_X9_isClock G r0 x1 V = some (V', v)) : Rn X (0) 144 [.ref r0, .int (iI x1)] n z G V n z G V' (some (.int (iI v))) := by
  refine qi_toR (v := v) (L := [some (.ref r0), some (.int (iI x1))]) rfl ?_
  unfold F_X9_isClock at h
  refine t_l fX9_isClock_0 rfl rfl rfl rfl ?_
  obtain ⟨g2, h⟩ := gd_some h
  refine k9_if_lt fX9_isClock_1 rfl g2 (fun c1 => ?_) (fun c1 => ?_)
  · replace h := ite_t (c1) h
    refine t_s fX9_isClock_14 rfl rfl rfl ?_
    refine t_ret fX9_isClock_15 (rX9_isClock _ (by decide)) ?_
    exact qf_i h
  · replace h := ite_f (c1) h
    refine t_l fX9_isClock_4 rfl rfl rfl rfl ?_
    refine t_s fX9_isClock_5 rfl rfl rfl ?_
    refine k9_ic_ge fX9_isClock_7 rfl g2 ⟨by decide, by decide⟩ (fun c3 => ?_) (fun c3 => ?_)
    · replace h := ite_t (c3) h
      refine t_s fX9_isClock_14 rfl rfl rfl ?_
      refine t_ret fX9_isClock_15 (rX9_isClock _ (by decide)) ?_
      exact qf_i h
    · replace h := ite_f (c3) h
      refine t_s fX9_isClock_10 rfl rfl rfl ?_
      refine k9_goto fX9_isClock_11 rfl ?_
      refine t_ret fX9_isClock_15 (rX9_isClock _ (by decide)) ?_
      exact qf_i h

theorem q_X9_isTask {X : mX} {n z : Nat} {G : mG} {r0 : Nat} (hr0 : is9 G r0) {x1 : Int} {V V' : mV} {v : Int} (h : F_X9_isTask G r0 x1 V = some (V', v)) : Rn X (1) 143 [.ref r0, .int (iI x1)] n z G V n z G V' (some (.int (iI v))) := by
  refine qi_toR (v := v) (L := [some (.ref r0), some (.int (iI x1))]) rfl ?_
  unfold F_X9_isTask at h
  refine t_l fX9_isTask_0 rfl rfl rfl rfl ?_
  obtain ⟨g2, h⟩ := gd_some h
  refine k9_if_lt fX9_isTask_1 rfl g2 (fun c1 => ?_) (fun c1 => ?_)
  · replace h := ite_t (c1) h
    refine t_s fX9_isTask_22 rfl rfl rfl ?_
    refine t_ret fX9_isTask_23 (rX9_isTask _ (by decide)) ?_
    exact qf_i h
  · replace h := ite_f (c1) h
    refine t_l fX9_isTask_4 rfl rfl rfl rfl ?_
    refine t_l fX9_isTask_5 rfl rfl rfl rfl ?_
    refine k9_gr fX9_isTask_6 (hr0).1 kg_9_10 (s9_10r hr0) ?_
    refine k9_gr fX9_isTask_9 (s9_10s hr0).1 kg_1_5 (s1_5r (s9_10s hr0)) ?_
    obtain ⟨V3, v4, e5, h⟩ := bd_some h
    refine kcX7_size fX9_isTask_12 (s1_5s (s9_10s hr0)).1 rfl (q_X7_size (s1_5s (s9_10s hr0)) e5) (by decide) ?_
    obtain ⟨g7, h⟩ := gd_some h
    refine k9_ic_ge fX9_isTask_15 rfl g2 g7 (fun c6 => ?_) (fun c6 => ?_)
    · replace h := ite_t (c6) h
      refine t_s fX9_isTask_22 rfl rfl rfl ?_
      refine t_ret fX9_isTask_23 (rX9_isTask _ (by decide)) ?_
      exact qf_i h
    · replace h := ite_f (c6) h
      refine t_s fX9_isTask_18 rfl rfl rfl ?_
      refine k9_goto fX9_isTask_19 rfl ?_
      refine t_ret fX9_isTask_23 (rX9_isTask _ (by decide)) ?_
      exact qf_i h

theorem q_X9_could {X : mX} {n z : Nat} {G : mG} {r0 : Nat} (hr0 : is9 G r0) {x1 x2 x3 x4 : Int} {V V' : mV} {v : Int} (h : F_X9_could G r0 x1 x2 x3 x4 V = some (V', v)) : Rn X (6) 117 [.ref r0, .int (iI x1), .int (iI x2), .int (iI x3), .int (iI x4)] n z G V n z G V' (some (.int (iI v))) := by
  refine qi_toR (v := v) (L := [some (.ref r0), some (.int (iI x1)), some (.int (iI x2)), some (.int (iI x3)), some (.int (iI x4))]) rfl ?_
  unfold F_X9_could at h
  refine t_l fX9_could_0 rfl rfl rfl rfl ?_
  refine t_l fX9_could_1 rfl rfl rfl rfl ?_
  obtain ⟨V1, v2, e3, h⟩ := bd_some h
  refine kcX9_isPerson fX9_could_2 (hr0).1 rfl (q_X9_isPerson (hr0) e3) (by decide) ?_
  obtain ⟨g5, h⟩ := gd_some h
  refine k9_if_eq fX9_could_5 rfl g5 (fun c4 => ?_) (fun c4 => ?_)
  · replace h := ite_t (c4) h
    refine t_s fX9_could_16 rfl rfl rfl ?_
    refine t_ret fX9_could_17 rX9_could ?_
    exact qf_i h
  · replace h := ite_f (c4) h
    refine t_l fX9_could_8 rfl rfl rfl rfl ?_
    refine t_l fX9_could_9 rfl rfl rfl rfl ?_
    obtain ⟨V6, v7, e8, h⟩ := bd_some h
    refine kcX9_isPerson fX9_could_10 (hr0).1 rfl (q_X9_isPerson (hr0) e8) (by decide) ?_
    obtain ⟨g10, h⟩ := gd_some h
    refine k9_if_ne fX9_could_13 rfl g10 (fun c9 => ?_) (fun c9 => ?_)
    · replace h := ite_f (c9) h
      refine t_l fX9_could_18 rfl rfl rfl rfl ?_
      refine t_l fX9_could_19 rfl rfl rfl rfl ?_
      obtain ⟨V11, v12, e13, h⟩ := bd_some h
      refine kcX9_isTask fX9_could_20 (hr0).1 rfl (q_X9_isTask (hr0) e13) (by decide) ?_
      obtain ⟨g15, h⟩ := gd_some h
      refine k9_if_eq fX9_could_23 rfl g15 (fun c14 => ?_) (fun c14 => ?_)
      · replace h := ite_t (c14) h
        refine t_s fX9_could_35 rfl rfl rfl ?_
        refine t_ret fX9_could_36 rX9_could ?_
        exact qf_i h
      · replace h := ite_f (c14) h
        refine t_l fX9_could_26 rfl rfl rfl rfl ?_
        refine t_l fX9_could_27 rfl rfl rfl rfl ?_
        obtain ⟨V16, v17, e18, h⟩ := bd_some h
        refine kcX9_isClock fX9_could_29 (hr0).1 rfl (q_X9_isClock (hr0) e18) (by decide) ?_
        obtain ⟨g20, h⟩ := gd_some h
        refine k9_if_ne fX9_could_32 rfl g20 (fun c19 => ?_) (fun c19 => ?_)
        · replace h := ite_f (c19) h
          refine t_l fX9_could_37 rfl rfl rfl rfl ?_
          refine k9_gr fX9_could_38 (hr0).1 kg_9_5 (s9_5r hr0) ?_
          refine t_l fX9_could_41 rfl rfl rfl rfl ?_
          refine k9_gr fX9_could_42 (hr0).1 kg_9_10 (s9_10r hr0) ?_
          refine t_l fX9_could_45 rfl rfl rfl rfl ?_
          refine k9_gr fX9_could_46 (hr0).1 kg_9_8 (s9_8r hr0) ?_
          refine t_l fX9_could_49 rfl rfl rfl rfl ?_
          refine t_l fX9_could_50 rfl rfl rfl rfl ?_
          refine t_l fX9_could_51 rfl rfl rfl rfl ?_
          refine t_l fX9_could_52 rfl rfl rfl rfl ?_
          obtain ⟨V21, v22, e23, h⟩ := bd_some h
          refine kcX2_ableNow fX9_could_54 (s9_5s hr0).1 rfl rfl rfl (q_X2_ableNow (s9_5s hr0) (s9_10s hr0) (s9_8s hr0) e23) (by decide) ?_
          obtain ⟨g25, h⟩ := gd_some h
          refine k9_if_eq fX9_could_57 rfl g25 (fun c24 => ?_) (fun c24 => ?_)
          · replace h := ite_t (c24) h
            refine t_s fX9_could_64 rfl rfl rfl ?_
            refine t_ret fX9_could_65 rX9_could ?_
            exact qf_i h
          · replace h := ite_f (c24) h
            refine t_s fX9_could_60 rfl rfl rfl ?_
            refine k9_goto fX9_could_61 rfl ?_
            refine t_ret fX9_could_65 rX9_could ?_
            exact qf_i h
        · replace h := ite_t (Classical.not_not.mp c19) h
          refine t_s fX9_could_35 rfl rfl rfl ?_
          refine t_ret fX9_could_36 rX9_could ?_
          exact qf_i h
    · replace h := ite_t (Classical.not_not.mp c9) h
      refine t_s fX9_could_16 rfl rfl rfl ?_
      refine t_ret fX9_could_17 rX9_could ?_
      exact qf_i h

theorem q_X9_kept {X : mX} {n z : Nat} {G : mG} {r0 : Nat} (hr0 : is9 G r0) {x1 x2 : Int} {V V' : mV} {v : Int} (h : F_X9_kept G r0 x1 x2 V = some (V', v)) : Rn X (3) 118 [.ref r0, .int (iI x1), .int (iI x2)] n z G V n z G V' (some (.int (iI v))) := by
  refine qi_toR (v := v) (L := [some (.ref r0), some (.int (iI x1)), some (.int (iI x2))]) rfl ?_
  unfold F_X9_kept at h
  refine t_l fX9_kept_0 rfl rfl rfl rfl ?_
  refine k9_gr fX9_kept_1 (hr0).1 kg_9_8 (s9_8r hr0) ?_
  refine t_l fX9_kept_4 rfl rfl rfl rfl ?_
  refine t_l fX9_kept_5 rfl rfl rfl rfl ?_
  obtain ⟨V1, v2, e3, h⟩ := bd_some h
  refine kcX4_keptPart fX9_kept_6 (s9_8s hr0).1 rfl (q_X4_keptPart (s9_8s hr0) e3) (by decide) ?_
  refine t_ret fX9_kept_9 rX9_kept ?_
  exact qf_i h

theorem q_X9_isHere {X : mX} {n z : Nat} {G : mG} {r0 : Nat} (hr0 : is9 G r0) {x1 : Int} {V V' : mV} {v : Int} (h : F_X9_isHere G r0 x1 V = some (V', v)) : Rn X (2) 145 [.ref r0, .int (iI x1)] n z G V n z G V' (some (.int (iI v))) := by
  refine qi_toR (v := v) (L := [some (.ref r0), some (.int (iI x1))]) rfl ?_
  unfold F_X9_isHere at h
  refine t_l fX9_isHere_0 rfl rfl rfl rfl ?_
  refine t_l fX9_isHere_1 rfl rfl rfl rfl ?_
  obtain ⟨V1, v2, e3, h⟩ := bd_some h
  refine kcX9_isPerson fX9_isHere_2 (hr0).1 rfl (q_X9_isPerson (hr0) e3) (by decide) ?_
  obtain ⟨g5, h⟩ := gd_some h
  refine k9_if_eq fX9_isHere_5 rfl g5 (fun c4 => ?_) (fun c4 => ?_)
  · replace h := ite_t (c4) h
    refine t_s fX9_isHere_27 rfl rfl rfl ?_
    refine t_ret fX9_isHere_28 (rX9_isHere _ (by decide)) ?_
    exact qf_i h
  · replace h := ite_f (c4) h
    refine t_l fX9_isHere_8 rfl rfl rfl rfl ?_
    refine k9_gr fX9_isHere_9 (hr0).1 kg_9_8 (s9_8r hr0) ?_
    refine k9_gr fX9_isHere_12 (s9_8s hr0).1 kg_4_1 (s4_1r (s9_8s hr0)) ?_
    refine t_l fX9_isHere_15 rfl rfl rfl rfl ?_
    obtain ⟨V6, v7, e8, h⟩ := bd_some h
    refine kcX7_get fX9_isHere_16 (s4_1s (s9_8s hr0)).1 rfl (q_X7_get (s4_1s (s9_8s hr0)) e8) (by decide) ?_
    refine t_s fX9_isHere_19 rfl rfl rfl ?_
    obtain ⟨g10, h⟩ := gd_some h
    refine k9_ic_eq fX9_isHere_20 rfl g10 ⟨by decide, by decide⟩ (fun c9 => ?_) (fun c9 => ?_)
    · replace h := ite_t (c9) h
      refine t_s fX9_isHere_27 rfl rfl rfl ?_
      refine t_ret fX9_isHere_28 (rX9_isHere _ (by decide)) ?_
      exact qf_i h
    · replace h := ite_f (c9) h
      refine t_s fX9_isHere_23 rfl rfl rfl ?_
      refine k9_goto fX9_isHere_24 rfl ?_
      refine t_ret fX9_isHere_28 (rX9_isHere _ (by decide)) ?_
      exact qf_i h

theorem q_X9_wave {X : mX} {n z : Nat} {G : mG} {r0 : Nat} (hr0 : is9 G r0) {x1 x2 : Int} {V V' : mV} {v : Int} (h : F_X9_wave G r0 x1 x2 V = some (V', v)) : Rn X (3) 119 [.ref r0, .int (iI x1), .int (iI x2)] n z G V n z G V' (some (.int (iI v))) := by
  refine qi_toR (v := v) (L := [some (.ref r0), some (.int (iI x1)), some (.int (iI x2))]) rfl ?_
  unfold F_X9_wave at h
  refine t_l fX9_wave_0 rfl rfl rfl rfl ?_
  refine t_l fX9_wave_1 rfl rfl rfl rfl ?_
  obtain ⟨V1, v2, e3, h⟩ := bd_some h
  refine kcX9_isHere fX9_wave_2 (hr0).1 rfl (q_X9_isHere (hr0) e3) (by decide) ?_
  obtain ⟨g5, h⟩ := gd_some h
  refine k9_if_ne fX9_wave_5 rfl g5 (fun c4 => ?_) (fun c4 => ?_)
  · replace h := ite_f (c4) h
    refine t_l fX9_wave_10 rfl rfl rfl rfl ?_
    refine k9_gr fX9_wave_11 (hr0).1 kg_9_9 (s9_9r hr0) ?_
    refine t_l fX9_wave_14 rfl rfl rfl rfl ?_
    refine k9_gr fX9_wave_15 (hr0).1 kg_9_8 (s9_8r hr0) ?_
    obtain ⟨V6, v7, e8, h⟩ := bd_some h
    refine kcX4_copy fX9_wave_18 (s9_9s hr0).1 rfl rfl (q_X4_copy (s9_9s hr0) (s9_8s hr0) e8) (by decide) ?_
    refine t_l fX9_wave_21 rfl rfl rfl rfl ?_
    refine k9_gr fX9_wave_22 (hr0).1 kg_9_5 (s9_5r hr0) ?_
    refine t_l fX9_wave_25 rfl rfl rfl rfl ?_
    refine k9_gr fX9_wave_26 (hr0).1 kg_9_10 (s9_10r hr0) ?_
    refine t_l fX9_wave_29 rfl rfl rfl rfl ?_
    refine k9_gr fX9_wave_30 (hr0).1 kg_9_9 (s9_9r hr0) ?_
    refine t_l fX9_wave_33 rfl rfl rfl rfl ?_
    obtain ⟨V9, v10, e11, h⟩ := bd_some h
    refine kcX2_sendAway fX9_wave_34 (s9_5s hr0).1 rfl rfl rfl (q_X2_sendAway (s9_5s hr0) (s9_10s hr0) (s9_9s hr0) e11) (by decide) ?_
    refine t_l fX9_wave_37 rfl rfl rfl rfl ?_
    refine t_s fX9_wave_38 rfl rfl rfl ?_
    obtain ⟨g13, h⟩ := gd_some h
    refine k9_ic_ne fX9_wave_39 rfl g13 ⟨by decide, by decide⟩ (fun c12 => ?_) (fun c12 => ?_)
    · replace h := ite_f (c12) h
      refine t_l fX9_wave_53 rfl rfl rfl rfl ?_
      refine t_s fX9_wave_54 rfl rfl rfl ?_
      refine k9_ic_ne fX9_wave_56 rfl g13 ⟨by decide, by decide⟩ (fun c14 => ?_) (fun c14 => ?_)
      · replace h := ite_f (c14) h
        refine t_l fX9_wave_69 rfl rfl rfl rfl ?_
        refine k9_gr fX9_wave_70 (hr0).1 kg_9_5 (s9_5r hr0) ?_
        refine k9_gr fX9_wave_73 (s9_5s hr0).1 kg_2_1 (s2_1r (s9_5s hr0)) ?_
        refine t_l fX9_wave_76 rfl rfl rfl rfl ?_
        obtain ⟨V15, v16, e17, h⟩ := bd_some h
        refine kcX7_get fX9_wave_77 (s2_1s (s9_5s hr0)).1 rfl (q_X7_get (s2_1s (s9_5s hr0)) e17) (by decide) ?_
        refine t_ret fX9_wave_80 rX9_wave ?_
        exact qf_i h
      · replace h := ite_t (Classical.not_not.mp c14) h
        refine t_l fX9_wave_59 rfl rfl rfl rfl ?_
        refine k9_gr fX9_wave_60 (hr0).1 kg_9_5 (s9_5r hr0) ?_
        refine k9_gi fX9_wave_63 (s9_5s hr0).1 kg_2_2 ?_
        refine k9_goto fX9_wave_66 rfl ?_
        refine t_ret fX9_wave_80 rX9_wave ?_
        exact qf_i h
    · replace h := ite_t (Classical.not_not.mp c12) h
      refine t_l fX9_wave_42 rfl rfl rfl rfl ?_
      refine k9_gr fX9_wave_43 (hr0).1 kg_9_5 (s9_5r hr0) ?_
      refine k9_gr fX9_wave_46 (s9_5s hr0).1 kg_2_1 (s2_1r (s9_5s hr0)) ?_
      obtain ⟨V18, v19, e20, h⟩ := bd_some h
      refine kcX7_size fX9_wave_49 (s2_1s (s9_5s hr0)).1 rfl (q_X7_size (s2_1s (s9_5s hr0)) e20) (by decide) ?_
      refine t_ret fX9_wave_52 rX9_wave ?_
      exact qf_i h
  · replace h := ite_t (Classical.not_not.mp c4) h
    refine t_s fX9_wave_8 rfl rfl rfl ?_
    refine t_ret fX9_wave_9 rX9_wave ?_
    exact qf_i h

theorem tb_X9_bring_2 {X : mX} {n z : Nat} {G : mG} {r0 r1 : Nat} (hr0 : is9 G r0) (hr1 : is4 G r1) {x2 x3 : Int} {V V' : mV} {q : Nat × Int} {Q : Nat → Nat → mG → mV → Option Value → Prop} (h0 : q.1 = 0 → T X (7) 149 2 [some (.ref r0), some (.ref r1), some (.int (iI x2)), some (.int (iI q.2))] [] n z G V' Q) (h1 : q.1 = 1 → T X (7) 149 25 [some (.ref r0), some (.ref r1), some (.int (iI x2)), some (.int (iI q.2))] [] n z G V' Q) (h : B_X9_bring_2 G r0 r1 x2 x3 V = some (V', q)) : T X (7) 149 2 [some (.ref r0), some (.ref r1), some (.int (iI x2)), some (.int (iI x3))] [] n z G V Q := by
  unfold B_X9_bring_2 at h
  refine t_l fX9_bring_2 rfl rfl rfl rfl ?_
  refine t_l fX9_bring_3 rfl rfl rfl rfl ?_
  obtain ⟨g2, h⟩ := gd_some h
  obtain ⟨g3, h⟩ := gd_some h
  refine k9_ic_ge fX9_bring_4 rfl g2 g3 (fun c1 => ?_) (fun c1 => ?_)
  · replace h := ite_t (c1) h
    cases h
    exact h1 rfl
  · replace h := ite_f (c1) h
    refine t_l fX9_bring_7 rfl rfl rfl rfl ?_
    refine k9_gr fX9_bring_8 (hr0).1 kg_9_5 (s9_5r hr0) ?_
    refine t_l fX9_bring_11 rfl rfl rfl rfl ?_
    refine k9_gr fX9_bring_12 (hr0).1 kg_9_10 (s9_10r hr0) ?_
    refine t_l fX9_bring_15 rfl rfl rfl rfl ?_
    obtain ⟨V4, v5, e6, h⟩ := bd_some h
    refine kcX2_comes fX9_bring_16 (s9_5s hr0).1 rfl rfl rfl (q_X2_comes (s9_5s hr0) (s9_10s hr0) (hr1) e6) (by decide) ?_
    replace h := lt_some h
    refine k9_iinc fX9_bring_19 rfl (Nat.le_of_ble_eq_true rfl) rfl ?_
    refine k9_goto fX9_bring_22 rfl ?_
    cases h
    exact h0 rfl

theorem tl_X9_bring_2 {X : mX} {n z : Nat} {G : mG} {r0 r1 : Nat} (hr0 : is9 G r0) (hr1 : is4 G r1) {x2 x3 : Int} {V V' : mV} {fu : Nat} {q : Nat × Int} {Q : Nat → Nat → mG → mV → Option Value → Prop} (k1 : q.1 = 1 → T X (7) 149 25 [some (.ref r0), some (.ref r1), some (.int (iI x2)), some (.int (iI q.2))] [] n z G V' Q) (h : lp (fun (s : Int) V => B_X9_bring_2 G r0 r1 x2 s V) fu x3 V = some (V', q)) : T X (7) 149 2 [some (.ref r0), some (.ref r1), some (.int (iI x2)), some (.int (iI x3))] [] n z G V Q :=
  lp_go (P0 := fun s V => T X (7) 149 2 [some (.ref r0), some (.ref r1), some (.int (iI x2)), some (.int (iI s))] [] n z G V Q) (PE := fun t s V => (t = 1 → T X (7) 149 25 [some (.ref r0), some (.ref r1), some (.int (iI x2)), some (.int (iI s))] [] n z G V Q)) (fun s V V' q hb h0 h1 => tb_X9_bring_2 hr0 hr1  h0 (fun e => (h1 (by omega)) e) hb) fu x3 V V' q h k1

theorem q_X9_bring {X : mX} {n z : Nat} {G : mG} {r0 r1 : Nat} (hr0 : is9 G r0) (hr1 : is4 G r1) {x2 : Int} {V V' : mV} {v : Int} (h : F_X9_bring G r0 r1 x2 V = some (V', v)) : Rn X (7) 149 [.ref r0, .ref r1, .int (iI x2)] n z G V n z G V' none := by
  refine qv_toR (v := v) (L := [some (.ref r0), some (.ref r1), some (.int (iI x2)), none]) rfl ?_
  unfold F_X9_bring at h
  refine t_s fX9_bring_0 rfl rfl rfl ?_
  refine t_l fX9_bring_1 rfl rfl rfl rfl ?_
  obtain ⟨V8, u9, e10, h⟩ := bd_some h
  refine tl_X9_bring_2 hr0 hr1  (fun e11 => ?_) e10
  refine t_ret fX9_bring_25 rX9_bring ?_
  exact qf_v h

theorem tj_X9_would_J19 {X : mX} {n z : Nat} {G : mG} {r0 : Nat} (hr0 : is9 G r0) {x1 x2 : Int} {j3 : Option Value} {V V' : mV} {v : Int} (h : F_X9_would_J19 G r0 x1 x2 V = some (V', v)) : T X (8) 120 19 [some (.ref r0), some (.int (iI x1)), some (.int (iI x2)), j3] [] n z G V (qi n z G V' v) := by
  unfold F_X9_would_J19 at h
  refine t_l fX9_would_19 rfl rfl rfl rfl ?_
  refine k9_gr fX9_would_20 (hr0).1 kg_9_9 (s9_9r hr0) ?_
  refine t_l fX9_would_23 rfl rfl rfl rfl ?_
  refine k9_gr fX9_would_24 (hr0).1 kg_9_8 (s9_8r hr0) ?_
  obtain ⟨V8, v9, e10, h⟩ := bd_some h
  refine kcX4_copy fX9_would_27 (s9_9s hr0).1 rfl rfl (q_X4_copy (s9_9s hr0) (s9_8s hr0) e10) (by decide) ?_
  refine t_l fX9_would_30 rfl rfl rfl rfl ?_
  refine k9_gr fX9_would_31 (hr0).1 kg_9_5 (s9_5r hr0) ?_
  obtain ⟨V11, v12, e13, h⟩ := bd_some h
  refine kcX2_forgetFailures fX9_would_34 (s9_5s hr0).1 rfl (q_X2_forgetFailures (s9_5s hr0) e13) (by decide) ?_
  refine t_l fX9_would_37 rfl rfl rfl rfl ?_
  refine k9_gr fX9_would_38 (hr0).1 kg_9_5 (s9_5r hr0) ?_
  refine t_l fX9_would_41 rfl rfl rfl rfl ?_
  refine k9_gr fX9_would_42 (hr0).1 kg_9_10 (s9_10r hr0) ?_
  refine t_l fX9_would_45 rfl rfl rfl rfl ?_
  refine k9_gr fX9_would_46 (hr0).1 kg_9_9 (s9_9r hr0) ?_
  refine t_l fX9_would_49 rfl rfl rfl rfl ?_
  obtain ⟨V14, v15, e16, h⟩ := bd_some h
  refine kcX2_sendAway fX9_would_50 (s9_5s hr0).1 rfl rfl rfl (q_X2_sendAway (s9_5s hr0) (s9_10s hr0) (s9_9s hr0) e16) (by decide) ?_
  refine t_s fX9_would_53 rfl rfl rfl ?_
  refine t_l fX9_would_55 rfl rfl rfl rfl ?_
  refine k9_gr fX9_would_56 (hr0).1 kg_9_8 (s9_8r hr0) ?_
  refine k9_gi fX9_would_59 (s9_8s hr0).1 kg_4_0 ?_
  refine t_s fX9_would_62 rfl rfl rfl ?_
  obtain ⟨g17, h⟩ := gd_some h
  refine k9_irem fX9_would_64 g17 ⟨by decide, by decide⟩ (by decide) ?_
  refine k9_isub fX9_would_65 ?_
  refine t_s fX9_would_66 rfl rfl rfl ?_
  refine t_l fX9_would_69 rfl rfl rfl rfl ?_
  refine k9_gr fX9_would_70 (hr0).1 kg_9_8 (s9_8r hr0) ?_
  refine k9_gi fX9_would_73 (s9_8s hr0).1 kg_4_0 ?_
  refine k9_isub fX9_would_76 ?_
  obtain ⟨g18, h⟩ := gd_some h
  obtain ⟨g19, h⟩ := gd_some h
  refine kcM_min fX9_would_77 rfl (eM_min g18 g19) (by decide) ?_
  replace h := lt_some h
  refine t_l fX9_would_80 rfl rfl rfl rfl ?_
  refine t_l fX9_would_81 rfl rfl rfl rfl ?_
  refine t_l fX9_would_82 rfl rfl rfl rfl ?_
  refine k9_gr fX9_would_83 (hr0).1 kg_9_9 (s9_9r hr0) ?_
  refine t_l fX9_would_86 rfl rfl rfl rfl ?_
  obtain ⟨V21, v22, e23, h⟩ := bd_some h
  refine kcX9_bring fX9_would_87 (hr0).1 rfl rfl (q_X9_bring (hr0) (s9_9s hr0) e23) (by decide) ?_
  refine t_l fX9_would_90 rfl rfl rfl rfl ?_
  refine k9_gr fX9_would_91 (hr0).1 kg_9_5 (s9_5r hr0) ?_
  refine k9_gr fX9_would_94 (s9_5s hr0).1 kg_2_3 (s2_3r (s9_5s hr0)) ?_
  refine t_l fX9_would_97 rfl rfl rfl rfl ?_
  obtain ⟨V24, v25, e26, h⟩ := bd_some h
  refine kcX7_get fX9_would_98 (s2_3s (s9_5s hr0)).1 rfl (q_X7_get (s2_3s (s9_5s hr0)) e26) (by decide) ?_
  refine t_ret fX9_would_101 rX9_would ?_
  exact qf_i h

theorem q_X9_would {X : mX} {n z : Nat} {G : mG} {r0 : Nat} (hr0 : is9 G r0) {x1 x2 : Int} {V V' : mV} {v : Int} (h : F_X9_would G r0 x1 x2 V = some (V', v)) : Rn X (8) 120 [.ref r0, .int (iI x1), .int (iI x2)] n z G V n z G V' (some (.int (iI v))) := by
  refine qi_toR (v := v) (L := [some (.ref r0), some (.int (iI x1)), some (.int (iI x2)), none]) rfl ?_
  unfold F_X9_would at h
  refine t_l fX9_would_0 rfl rfl rfl rfl ?_
  refine t_l fX9_would_1 rfl rfl rfl rfl ?_
  obtain ⟨V1, v2, e3, h⟩ := bd_some h
  refine kcX9_isHere fX9_would_2 (hr0).1 rfl (q_X9_isHere (hr0) e3) (by decide) ?_
  obtain ⟨g5, h⟩ := gd_some h
  refine k9_if_eq fX9_would_5 rfl g5 (fun c4 => ?_) (fun c4 => ?_)
  · replace h := ite_t (c4) h
    refine t_s fX9_would_17 rfl rfl rfl ?_
    refine t_ret fX9_would_18 rX9_would ?_
    exact qf_i h
  · replace h := ite_f (c4) h
    refine t_l fX9_would_8 rfl rfl rfl rfl ?_
    obtain ⟨g7, h⟩ := gd_some h
    refine k9_if_eq fX9_would_9 rfl g7 (fun c6 => ?_) (fun c6 => ?_)
    · replace h := ite_t (c6) h
      exact tj_X9_would_J19 hr0   h
    · replace h := ite_f (c6) h
      refine t_l fX9_would_12 rfl rfl rfl rfl ?_
      refine t_s fX9_would_13 rfl rfl rfl ?_
      refine k9_ic_eq fX9_would_14 rfl g7 ⟨by decide, by decide⟩ (fun c27 => ?_) (fun c27 => ?_)
      · replace h := ite_t (c27) h
        exact tj_X9_would_J19 hr0   h
      · replace h := ite_f (c27) h
        refine t_s fX9_would_17 rfl rfl rfl ?_
        refine t_ret fX9_would_18 rX9_would ?_
        exact qf_i h

theorem tb_X9_first_31 {X : mX} {n z : Nat} {G : mG} {r0 : Nat} (hr0 : is9 G r0) {x1 x2 : Int} {V V' : mV} {q : Nat × Int} {Q : Nat → Nat → mG → mV → Option Value → Prop} (h0 : q.1 = 0 → T X (7) 121 31 [some (.ref r0), some (.int (iI x1)), some (.int (iI q.2))] [] n z G V' Q) (h1 : q.1 = 1 → T X (7) 121 78 [some (.ref r0), some (.int (iI x1)), some (.int (iI q.2))] [] n z G V' Q) (h2 : q.1 = 2 → T X (7) 121 96 [some (.ref r0), some (.int (iI x1)), some (.int (iI q.2))] [] n z G V' Q) (h : B_X9_first_31 G r0 x1 x2 V = some (V', q)) : T X (7) 121 31 [some (.ref r0), some (.int (iI x1)), some (.int (iI x2))] [] n z G V Q := by
  unfold B_X9_first_31 at h
  refine t_l fX9_first_31 rfl rfl rfl rfl ?_
  refine t_s fX9_first_32 rfl rfl rfl ?_
  obtain ⟨g11, h⟩ := gd_some h
  refine k9_ic_gt fX9_first_34 rfl g11 ⟨by decide, by decide⟩ (fun c10 => ?_) (fun c10 => ?_)
  · replace h := ite_t (c10) h
    cases h
    exact h2 rfl
  · replace h := ite_f (c10) h
    refine t_l fX9_first_37 rfl rfl rfl rfl ?_
    refine k9_gr fX9_first_38 (hr0).1 kg_9_9 (s9_9r hr0) ?_
    refine k9_gi fX9_first_41 (s9_9s hr0).1 kg_4_0 ?_
    refine t_s fX9_first_44 rfl rfl rfl ?_
    obtain ⟨g13, h⟩ := gd_some h
    refine k9_ic_ge fX9_first_47 rfl g13 ⟨by decide, by decide⟩ (fun c12 => ?_) (fun c12 => ?_)
    · replace h := ite_t (c12) h
      cases h
      exact h2 rfl
    · replace h := ite_f (c12) h
      refine t_l fX9_first_50 rfl rfl rfl rfl ?_
      refine k9_gr fX9_first_51 (hr0).1 kg_9_5 (s9_5r hr0) ?_
      refine t_l fX9_first_54 rfl rfl rfl rfl ?_
      refine k9_gr fX9_first_55 (hr0).1 kg_9_10 (s9_10r hr0) ?_
      refine t_l fX9_first_58 rfl rfl rfl rfl ?_
      refine k9_gr fX9_first_59 (hr0).1 kg_9_9 (s9_9r hr0) ?_
      obtain ⟨V14, v15, e16, h⟩ := bd_some h
      refine kcX2_comes fX9_first_62 (s9_5s hr0).1 rfl rfl rfl (q_X2_comes (s9_5s hr0) (s9_10s hr0) (s9_9s hr0) e16) (by decide) ?_
      refine t_l fX9_first_65 rfl rfl rfl rfl ?_
      refine k9_gr fX9_first_66 (hr0).1 kg_9_5 (s9_5r hr0) ?_
      refine k9_gr fX9_first_69 (s9_5s hr0).1 kg_2_4 (s2_4r (s9_5s hr0)) ?_
      obtain ⟨V17, v18, e19, h⟩ := bd_some h
      refine kcX7_size fX9_first_72 (s2_4s (s9_5s hr0)).1 rfl (q_X7_size (s2_4s (s9_5s hr0)) e19) (by decide) ?_
      obtain ⟨g21, h⟩ := gd_some h
      refine k9_if_eq fX9_first_75 rfl g21 (fun c20 => ?_) (fun c20 => ?_)
      · replace h := ite_t (c20) h
        replace h := lt_some h
        refine k9_iinc fX9_first_90 rfl (Nat.le_of_ble_eq_true rfl) rfl ?_
        refine k9_goto fX9_first_93 rfl ?_
        cases h
        exact h0 rfl
      · replace h := ite_f (c20) h
        cases h
        exact h1 rfl

theorem tl_X9_first_31 {X : mX} {n z : Nat} {G : mG} {r0 : Nat} (hr0 : is9 G r0) {x1 x2 : Int} {V V' : mV} {fu : Nat} {q : Nat × Int} {Q : Nat → Nat → mG → mV → Option Value → Prop} (k1 : q.1 = 1 → T X (7) 121 78 [some (.ref r0), some (.int (iI x1)), some (.int (iI q.2))] [] n z G V' Q) (k2 : q.1 = 2 → T X (7) 121 96 [some (.ref r0), some (.int (iI x1)), some (.int (iI q.2))] [] n z G V' Q) (h : lp (fun (s : Int) V => B_X9_first_31 G r0 x1 s V) fu x2 V = some (V', q)) : T X (7) 121 31 [some (.ref r0), some (.int (iI x1)), some (.int (iI x2))] [] n z G V Q :=
  lp_go (P0 := fun s V => T X (7) 121 31 [some (.ref r0), some (.int (iI x1)), some (.int (iI s))] [] n z G V Q) (PE := fun t s V => (t = 1 → T X (7) 121 78 [some (.ref r0), some (.int (iI x1)), some (.int (iI s))] [] n z G V Q) ∧ (t = 2 → T X (7) 121 96 [some (.ref r0), some (.int (iI x1)), some (.int (iI s))] [] n z G V Q)) (fun s V V' q hb h0 h1 => tb_X9_first_31 hr0  h0 (fun e => (h1 (by omega)).1 e) (fun e => (h1 (by omega)).2 e) hb) fu x2 V V' q h ⟨k1, k2⟩

theorem q_X9_first {X : mX} {n z : Nat} {G : mG} {r0 : Nat} (hr0 : is9 G r0) {x1 : Int} {V V' : mV} {v : Int} (h : F_X9_first G r0 x1 V = some (V', v)) : Rn X (7) 121 [.ref r0, .int (iI x1)] n z G V n z G V' (some (.int (iI v))) := by
  refine qi_toR (v := v) (L := [some (.ref r0), some (.int (iI x1)), none]) rfl ?_
  unfold F_X9_first at h
  refine t_l fX9_first_0 rfl rfl rfl rfl ?_
  obtain ⟨g2, h⟩ := gd_some h
  refine k9_if_lt fX9_first_1 rfl g2 (fun c1 => ?_) (fun c1 => ?_)
  · replace h := ite_t (c1) h
    refine t_s fX9_first_9 rfl rfl rfl ?_
    refine t_ret fX9_first_10 rX9_first ?_
    exact qf_i h
  · replace h := ite_f (c1) h
    refine t_l fX9_first_4 rfl rfl rfl rfl ?_
    refine t_s fX9_first_5 rfl rfl rfl ?_
    refine k9_ic_le fX9_first_6 rfl g2 ⟨by decide, by decide⟩ (fun c3 => ?_) (fun c3 => ?_)
    · replace h := ite_t (c3) h
      refine t_l fX9_first_11 rfl rfl rfl rfl ?_
      refine k9_gr fX9_first_12 (hr0).1 kg_9_9 (s9_9r hr0) ?_
      refine t_l fX9_first_15 rfl rfl rfl rfl ?_
      refine k9_gr fX9_first_16 (hr0).1 kg_9_8 (s9_8r hr0) ?_
      obtain ⟨V4, v5, e6, h⟩ := bd_some h
      refine kcX4_copy fX9_first_19 (s9_9s hr0).1 rfl rfl (q_X4_copy (s9_9s hr0) (s9_8s hr0) e6) (by decide) ?_
      refine t_l fX9_first_22 rfl rfl rfl rfl ?_
      refine k9_gr fX9_first_23 (hr0).1 kg_9_5 (s9_5r hr0) ?_
      obtain ⟨V7, v8, e9, h⟩ := bd_some h
      refine kcX2_forgetFailures fX9_first_26 (s9_5s hr0).1 rfl (q_X2_forgetFailures (s9_5s hr0) e9) (by decide) ?_
      refine t_s fX9_first_29 rfl rfl rfl ?_
      refine t_l fX9_first_30 rfl rfl rfl rfl ?_
      obtain ⟨V23, u24, e25, h⟩ := bd_some h
      refine tl_X9_first_31 hr0  (fun e26 => ?_) (fun e26 => ?_) e25
      · replace h := ite_t e26 h
        refine t_l fX9_first_78 rfl rfl rfl rfl ?_
        refine k9_gr fX9_first_79 (hr0).1 kg_9_5 (s9_5r hr0) ?_
        refine k9_gr fX9_first_82 (s9_5s hr0).1 kg_2_4 (s2_4r (s9_5s hr0)) ?_
        refine t_l fX9_first_85 rfl rfl rfl rfl ?_
        obtain ⟨V27, v28, e29, h⟩ := bd_some h
        refine kcX7_get fX9_first_86 (s2_4s (s9_5s hr0)).1 rfl (q_X7_get (s2_4s (s9_5s hr0)) e29) (by decide) ?_
        refine t_ret fX9_first_89 rX9_first ?_
        exact qf_i h
      · replace h := ite_f (by omega) h
        refine t_s fX9_first_96 rfl rfl rfl ?_
        refine t_ret fX9_first_97 rX9_first ?_
        exact qf_i h
    · replace h := ite_f (c3) h
      refine t_s fX9_first_9 rfl rfl rfl ?_
      refine t_ret fX9_first_10 rX9_first ?_
      exact qf_i h

theorem tj_X9_best_J70_27 {X : mX} {n z : Nat} {G : mG} {r0 : Nat} (hr0 : is9 G r0) {x1 x2 x3 x4 x5 s0 : Int} {j6 : Option Value} {V V' : mV} {q : Nat × Int × Int × Int} {Q : Nat → Nat → mG → mV → Option Value → Prop} (h0 : q.1 = 0 → ∀ j6 : Option Value, T X (7) 122 27 [some (.ref r0), some (.int (iI x1)), some (.int (iI x2)), some (.int (iI q.2.1)), some (.int (iI q.2.2.1)), some (.int (iI q.2.2.2)), j6] [] n z G V' Q) (h1 : q.1 = 1 → ∀ j6 : Option Value, T X (7) 122 92 [some (.ref r0), some (.int (iI x1)), some (.int (iI x2)), some (.int (iI q.2.1)), some (.int (iI q.2.2.1)), some (.int (iI q.2.2.2)), j6] [] n z G V' Q) (h : F_X9_best_J70_27 G r0 x1 x2 x3 x4 x5 s0 V = some (V', q)) : T X (7) 122 70 [some (.ref r0), some (.int (iI x1)), some (.int (iI x2)), some (.int (iI x3)), some (.int (iI x4)), some (.int (iI x5)), j6] [.int (iI s0)] n z G V Q := by
  unfold F_X9_best_J70_27 at h
  refine t_l fX9_best_70 rfl rfl rfl rfl ?_
  refine t_l fX9_best_72 rfl rfl rfl rfl ?_
  refine t_l fX9_best_74 rfl rfl rfl rfl ?_
  obtain ⟨g20, h⟩ := gd_some h
  obtain ⟨g21, h⟩ := gd_some h
  refine k9_ic_le fX9_best_76 rfl g20 g21 (fun c19 => ?_) (fun c19 => ?_)
  · replace h := ite_t (c19) h
    replace h := lt_some h
    refine k9_iinc fX9_best_86 rfl (Nat.le_of_ble_eq_true rfl) rfl ?_
    refine k9_goto fX9_best_89 rfl ?_
    cases h
    exact h0 rfl _
  · replace h := ite_f (c19) h
    refine t_l fX9_best_79 rfl rfl rfl rfl ?_
    refine t_l fX9_best_81 rfl rfl rfl rfl ?_
    refine t_l fX9_best_82 rfl rfl rfl rfl ?_
    refine t_l fX9_best_84 rfl rfl rfl rfl ?_
    replace h := lt_some h
    refine k9_iinc fX9_best_86 rfl (Nat.le_of_ble_eq_true rfl) rfl ?_
    refine k9_goto fX9_best_89 rfl ?_
    cases h
    exact h0 rfl _

theorem tb_X9_best_27 {X : mX} {n z : Nat} {G : mG} {r0 : Nat} (hr0 : is9 G r0) {x1 x2 x3 x4 x5 : Int} {j6 : Option Value} {V V' : mV} {q : Nat × Int × Int × Int} {Q : Nat → Nat → mG → mV → Option Value → Prop} (h0 : q.1 = 0 → ∀ j6 : Option Value, T X (7) 122 27 [some (.ref r0), some (.int (iI x1)), some (.int (iI x2)), some (.int (iI q.2.1)), some (.int (iI q.2.2.1)), some (.int (iI q.2.2.2)), j6] [] n z G V' Q) (h1 : q.1 = 1 → ∀ j6 : Option Value, T X (7) 122 92 [some (.ref r0), some (.int (iI x1)), some (.int (iI x2)), some (.int (iI q.2.1)), some (.int (iI q.2.2.1)), some (.int (iI q.2.2.2)), j6] [] n z G V' Q) (h : B_X9_best_27 G r0 x1 x2 x3 x4 x5 V = some (V', q)) : T X (7) 122 27 [some (.ref r0), some (.int (iI x1)), some (.int (iI x2)), some (.int (iI x3)), some (.int (iI x4)), some (.int (iI x5)), j6] [] n z G V Q := by
  unfold B_X9_best_27 at h
  refine t_l fX9_best_27 rfl rfl rfl rfl ?_
  refine t_l fX9_best_29 rfl rfl rfl rfl ?_
  refine k9_gr fX9_best_30 (hr0).1 kg_9_10 (s9_10r hr0) ?_
  refine k9_gr fX9_best_33 (s9_10s hr0).1 kg_1_0 (s1_0r (s9_10s hr0)) ?_
  obtain ⟨V8, v9, e10, h⟩ := bd_some h
  refine kcX7_size fX9_best_36 (s1_0s (s9_10s hr0)).1 rfl (q_X7_size (s1_0s (s9_10s hr0)) e10) (by decide) ?_
  obtain ⟨g12, h⟩ := gd_some h
  obtain ⟨g13, h⟩ := gd_some h
  refine k9_ic_ge fX9_best_39 rfl g12 g13 (fun c11 => ?_) (fun c11 => ?_)
  · replace h := ite_t (c11) h
    cases h
    exact h1 rfl _
  · replace h := ite_f (c11) h
    refine t_l fX9_best_42 rfl rfl rfl rfl ?_
    refine t_l fX9_best_44 rfl rfl rfl rfl ?_
    obtain ⟨g15, h⟩ := gd_some h
    refine k9_ic_ne fX9_best_45 rfl g12 g15 (fun c14 => ?_) (fun c14 => ?_)
    · replace h := ite_f (c14) h
      refine t_l fX9_best_52 rfl rfl rfl rfl ?_
      refine k9_gr fX9_best_53 (hr0).1 kg_9_5 (s9_5r hr0) ?_
      refine t_l fX9_best_56 rfl rfl rfl rfl ?_
      refine k9_gr fX9_best_57 (hr0).1 kg_9_10 (s9_10r hr0) ?_
      refine t_l fX9_best_60 rfl rfl rfl rfl ?_
      refine k9_gr fX9_best_61 (hr0).1 kg_9_8 (s9_8r hr0) ?_
      refine t_l fX9_best_64 rfl rfl rfl rfl ?_
      refine t_l fX9_best_66 rfl rfl rfl rfl ?_
      obtain ⟨V16, v17, e18, h⟩ := bd_some h
      refine kcX2_countAble fX9_best_67 (s9_5s hr0).1 rfl rfl rfl (q_X2_countAble (s9_5s hr0) (s9_10s hr0) (s9_8s hr0) e18) (by decide) ?_
      exact tj_X9_best_J70_27 hr0  h0 h1 h
    · replace h := ite_t (Classical.not_not.mp c14) h
      refine t_s fX9_best_48 rfl rfl rfl ?_
      refine k9_goto fX9_best_49 rfl ?_
      exact tj_X9_best_J70_27 hr0  h0 h1 h

theorem tl_X9_best_27 {X : mX} {n z : Nat} {G : mG} {r0 : Nat} (hr0 : is9 G r0) {x1 x2 x3 x4 x5 : Int} {j6 : Option Value} {V V' : mV} {fu : Nat} {q : Nat × Int × Int × Int} {Q : Nat → Nat → mG → mV → Option Value → Prop} (k1 : q.1 = 1 → ∀ j6 : Option Value, T X (7) 122 92 [some (.ref r0), some (.int (iI x1)), some (.int (iI x2)), some (.int (iI q.2.1)), some (.int (iI q.2.2.1)), some (.int (iI q.2.2.2)), j6] [] n z G V' Q) (h : lp (fun (s : Int × Int × Int) V => B_X9_best_27 G r0 x1 x2 s.1 s.2.1 s.2.2 V) fu (x3, x4, x5) V = some (V', q)) : T X (7) 122 27 [some (.ref r0), some (.int (iI x1)), some (.int (iI x2)), some (.int (iI x3)), some (.int (iI x4)), some (.int (iI x5)), j6] [] n z G V Q :=
  lp_go (P0 := fun s V => ∀ j6 : Option Value, T X (7) 122 27 [some (.ref r0), some (.int (iI x1)), some (.int (iI x2)), some (.int (iI s.1)), some (.int (iI s.2.1)), some (.int (iI s.2.2)), j6] [] n z G V Q) (PE := fun t s V => (t = 1 → ∀ j6 : Option Value, T X (7) 122 92 [some (.ref r0), some (.int (iI x1)), some (.int (iI x2)), some (.int (iI s.1)), some (.int (iI s.2.1)), some (.int (iI s.2.2)), j6] [] n z G V Q)) (fun s V V' q hb h0 h1 => fun _ => tb_X9_best_27 hr0  h0 (fun e => (h1 (by omega)) e) hb) fu (x3, x4, x5) V V' q h k1 _

theorem tj_X9_best_J19 {X : mX} {n z : Nat} {G : mG} {r0 : Nat} (hr0 : is9 G r0) {x1 x2 : Int} {j3 j4 j5 j6 : Option Value} {V V' : mV} {v : Int} (h : F_X9_best_J19 G r0 x1 x2 V = some (V', v)) : T X (7) 122 19 [some (.ref r0), some (.int (iI x1)), some (.int (iI x2)), j3, j4, j5, j6] [] n z G V (qi n z G V' v) := by
  unfold F_X9_best_J19 at h
  refine t_s fX9_best_19 rfl rfl rfl ?_
  refine t_l fX9_best_20 rfl rfl rfl rfl ?_
  refine t_s fX9_best_21 rfl rfl rfl ?_
  refine t_l fX9_best_22 rfl rfl rfl rfl ?_
  refine t_s fX9_best_24 rfl rfl rfl ?_
  refine t_l fX9_best_25 rfl rfl rfl rfl ?_
  obtain ⟨V24, u25, e26, h⟩ := bd_some h
  refine tl_X9_best_27 hr0  (fun e27 j6 => ?_) e26
  refine t_l fX9_best_92 rfl rfl rfl rfl ?_
  obtain ⟨g29, h⟩ := gd_some h
  refine k9_if_ne fX9_best_93 rfl g29 (fun c28 => ?_) (fun c28 => ?_)
  · replace h := ite_f (c28) h
    refine t_l fX9_best_100 rfl rfl rfl rfl ?_
    refine t_ret fX9_best_102 rX9_best ?_
    exact qf_i h
  · replace h := ite_t (Classical.not_not.mp c28) h
    refine t_l fX9_best_96 rfl rfl rfl rfl ?_
    refine k9_goto fX9_best_97 rfl ?_
    refine t_ret fX9_best_102 rX9_best ?_
    exact qf_i h

theorem q_X9_best {X : mX} {n z : Nat} {G : mG} {r0 : Nat} (hr0 : is9 G r0) {x1 x2 : Int} {V V' : mV} {v : Int} (h : F_X9_best G r0 x1 x2 V = some (V', v)) : Rn X (7) 122 [.ref r0, .int (iI x1), .int (iI x2)] n z G V n z G V' (some (.int (iI v))) := by
  refine qi_toR (v := v) (L := [some (.ref r0), some (.int (iI x1)), some (.int (iI x2)), none, none, none, none]) rfl ?_
  unfold F_X9_best at h
  refine t_l fX9_best_0 rfl rfl rfl rfl ?_
  refine t_l fX9_best_1 rfl rfl rfl rfl ?_
  obtain ⟨V1, v2, e3, h⟩ := bd_some h
  refine kcX9_isPerson fX9_best_2 (hr0).1 rfl (q_X9_isPerson (hr0) e3) (by decide) ?_
  obtain ⟨g5, h⟩ := gd_some h
  refine k9_if_eq fX9_best_5 rfl g5 (fun c4 => ?_) (fun c4 => ?_)
  · replace h := ite_t (c4) h
    refine t_s fX9_best_17 rfl rfl rfl ?_
    refine t_ret fX9_best_18 rX9_best ?_
    exact qf_i h
  · replace h := ite_f (c4) h
    refine t_l fX9_best_8 rfl rfl rfl rfl ?_
    obtain ⟨g7, h⟩ := gd_some h
    refine k9_if_eq fX9_best_9 rfl g7 (fun c6 => ?_) (fun c6 => ?_)
    · replace h := ite_t (c6) h
      exact tj_X9_best_J19 hr0   h
    · replace h := ite_f (c6) h
      refine t_l fX9_best_12 rfl rfl rfl rfl ?_
      refine t_s fX9_best_13 rfl rfl rfl ?_
      refine k9_ic_eq fX9_best_14 rfl g7 ⟨by decide, by decide⟩ (fun c30 => ?_) (fun c30 => ?_)
      · replace h := ite_t (c30) h
        exact tj_X9_best_J19 hr0   h
      · replace h := ite_f (c30) h
        refine t_s fX9_best_17 rfl rfl rfl ?_
        refine t_ret fX9_best_18 rX9_best ?_
        exact qf_i h

theorem tb_X9_study_36 {X : mX} {n z : Nat} {G : mG} {r0 : Nat} (hr0 : is9 G r0) {x1 x2 x3 x4 : Int} {V V' : mV} {q : Nat × Int × Int} {Q : Nat → Nat → mG → mV → Option Value → Prop} (h0 : q.1 = 0 → T X (6) 123 36 [some (.ref r0), some (.int (iI x1)), some (.int (iI x2)), some (.int (iI q.2.1)), some (.int (iI q.2.2))] [] n z G V' Q) (h1 : q.1 = 1 → T X (6) 123 67 [some (.ref r0), some (.int (iI x1)), some (.int (iI x2)), some (.int (iI q.2.1)), some (.int (iI q.2.2))] [] n z G V' Q) (h2 : q.1 = 2 → T X (6) 123 98 [some (.ref r0), some (.int (iI x1)), some (.int (iI x2)), some (.int (iI q.2.1)), some (.int (iI q.2.2))] [] n z G V' Q) (h : B_X9_study_36 G r0 x1 x2 x3 x4 V = some (V', q)) : T X (6) 123 36 [some (.ref r0), some (.int (iI x1)), some (.int (iI x2)), some (.int (iI x3)), some (.int (iI x4))] [] n z G V Q := by
  unfold B_X9_study_36 at h
  refine t_l fX9_study_36 rfl rfl rfl rfl ?_
  refine t_s fX9_study_38 rfl rfl rfl ?_
  obtain ⟨g18, h⟩ := gd_some h
  refine k9_ic_gt fX9_study_40 rfl g18 ⟨by decide, by decide⟩ (fun c17 => ?_) (fun c17 => ?_)
  · replace h := ite_t (c17) h
    cases h
    exact h2 rfl
  · replace h := ite_f (c17) h
    refine t_l fX9_study_43 rfl rfl rfl rfl ?_
    refine k9_gr fX9_study_44 (hr0).1 kg_9_5 (s9_5r hr0) ?_
    refine t_l fX9_study_47 rfl rfl rfl rfl ?_
    refine k9_gr fX9_study_48 (hr0).1 kg_9_10 (s9_10r hr0) ?_
    refine t_l fX9_study_51 rfl rfl rfl rfl ?_
    refine k9_gr fX9_study_52 (hr0).1 kg_9_8 (s9_8r hr0) ?_
    refine k9_gi fX9_study_55 (s9_8s hr0).1 kg_4_0 ?_
    refine t_l fX9_study_58 rfl rfl rfl rfl ?_
    refine t_l fX9_study_59 rfl rfl rfl rfl ?_
    refine t_l fX9_study_60 rfl rfl rfl rfl ?_
    obtain ⟨V19, v20, e21, h⟩ := bd_some h
    refine kcX2_ableInAll fX9_study_61 (s9_5s hr0).1 rfl rfl (q_X2_ableInAll (s9_5s hr0) (s9_10s hr0) e21) (by decide) ?_
    obtain ⟨g23, h⟩ := gd_some h
    refine k9_if_eq fX9_study_64 rfl g23 (fun c22 => ?_) (fun c22 => ?_)
    · replace h := ite_t (c22) h
      refine t_l fX9_study_70 rfl rfl rfl rfl ?_
      refine k9_gr fX9_study_71 (hr0).1 kg_9_5 (s9_5r hr0) ?_
      refine t_l fX9_study_74 rfl rfl rfl rfl ?_
      refine k9_gr fX9_study_75 (hr0).1 kg_9_10 (s9_10r hr0) ?_
      refine t_l fX9_study_78 rfl rfl rfl rfl ?_
      refine k9_gr fX9_study_79 (hr0).1 kg_9_8 (s9_8r hr0) ?_
      refine k9_gi fX9_study_82 (s9_8s hr0).1 kg_4_0 ?_
      refine t_l fX9_study_85 rfl rfl rfl rfl ?_
      refine t_l fX9_study_86 rfl rfl rfl rfl ?_
      refine t_l fX9_study_87 rfl rfl rfl rfl ?_
      obtain ⟨V24, v25, e26, h⟩ := bd_some h
      refine kcX2_learned fX9_study_88 (s9_5s hr0).1 rfl rfl (q_X2_learned (s9_5s hr0) (s9_10s hr0) e26) (by decide) ?_
      refine t_l fX9_study_91 rfl rfl rfl rfl ?_
      replace h := lt_some h
      refine k9_iinc fX9_study_92 rfl (Nat.le_of_ble_eq_true rfl) rfl ?_
      refine k9_goto fX9_study_95 rfl ?_
      cases h
      exact h0 rfl
    · replace h := ite_f (c22) h
      cases h
      exact h1 rfl

theorem tl_X9_study_36 {X : mX} {n z : Nat} {G : mG} {r0 : Nat} (hr0 : is9 G r0) {x1 x2 x3 x4 : Int} {V V' : mV} {fu : Nat} {q : Nat × Int × Int} {Q : Nat → Nat → mG → mV → Option Value → Prop} (k1 : q.1 = 1 → T X (6) 123 67 [some (.ref r0), some (.int (iI x1)), some (.int (iI x2)), some (.int (iI q.2.1)), some (.int (iI q.2.2))] [] n z G V' Q) (k2 : q.1 = 2 → T X (6) 123 98 [some (.ref r0), some (.int (iI x1)), some (.int (iI x2)), some (.int (iI q.2.1)), some (.int (iI q.2.2))] [] n z G V' Q) (h : lp (fun (s : Int × Int) V => B_X9_study_36 G r0 x1 x2 s.1 s.2 V) fu (x3, x4) V = some (V', q)) : T X (6) 123 36 [some (.ref r0), some (.int (iI x1)), some (.int (iI x2)), some (.int (iI x3)), some (.int (iI x4))] [] n z G V Q :=
  lp_go (P0 := fun s V => T X (6) 123 36 [some (.ref r0), some (.int (iI x1)), some (.int (iI x2)), some (.int (iI s.1)), some (.int (iI s.2))] [] n z G V Q) (PE := fun t s V => (t = 1 → T X (6) 123 67 [some (.ref r0), some (.int (iI x1)), some (.int (iI x2)), some (.int (iI s.1)), some (.int (iI s.2))] [] n z G V Q) ∧ (t = 2 → T X (6) 123 98 [some (.ref r0), some (.int (iI x1)), some (.int (iI x2)), some (.int (iI s.1)), some (.int (iI s.2))] [] n z G V Q)) (fun s V V' q hb h0 h1 => tb_X9_study_36 hr0  h0 (fun e => (h1 (by omega)).1 e) (fun e => (h1 (by omega)).2 e) hb) fu (x3, x4) V V' q h ⟨k1, k2⟩

theorem q_X9_study {X : mX} {n z : Nat} {G : mG} {r0 : Nat} (hr0 : is9 G r0) {x1 x2 : Int} {V V' : mV} {v : Int} (h : F_X9_study G r0 x1 x2 V = some (V', v)) : Rn X (6) 123 [.ref r0, .int (iI x1), .int (iI x2)] n z G V n z G V' (some (.int (iI v))) := by
  refine qi_toR (v := v) (L := [some (.ref r0), some (.int (iI x1)), some (.int (iI x2)), none, none]) rfl ?_
  unfold F_X9_study at h
  refine t_l fX9_study_0 rfl rfl rfl rfl ?_
  refine t_l fX9_study_1 rfl rfl rfl rfl ?_
  obtain ⟨V1, v2, e3, h⟩ := bd_some h
  refine kcX9_isPerson fX9_study_2 (hr0).1 rfl (q_X9_isPerson (hr0) e3) (by decide) ?_
  obtain ⟨g5, h⟩ := gd_some h
  refine k9_if_eq fX9_study_5 rfl g5 (fun c4 => ?_) (fun c4 => ?_)
  · replace h := ite_t (c4) h
    refine t_s fX9_study_21 rfl rfl rfl ?_
    refine t_ret fX9_study_22 rX9_study ?_
    exact qf_i h
  · replace h := ite_f (c4) h
    refine t_l fX9_study_8 rfl rfl rfl rfl ?_
    refine t_l fX9_study_9 rfl rfl rfl rfl ?_
    obtain ⟨V6, v7, e8, h⟩ := bd_some h
    refine kcX9_isPerson fX9_study_10 (hr0).1 rfl (q_X9_isPerson (hr0) e8) (by decide) ?_
    obtain ⟨g10, h⟩ := gd_some h
    refine k9_if_eq fX9_study_13 rfl g10 (fun c9 => ?_) (fun c9 => ?_)
    · replace h := ite_t (c9) h
      refine t_s fX9_study_21 rfl rfl rfl ?_
      refine t_ret fX9_study_22 rX9_study ?_
      exact qf_i h
    · replace h := ite_f (c9) h
      refine t_l fX9_study_16 rfl rfl rfl rfl ?_
      refine t_l fX9_study_17 rfl rfl rfl rfl ?_
      obtain ⟨g12, h⟩ := gd_some h
      obtain ⟨g13, h⟩ := gd_some h
      refine k9_ic_ne fX9_study_18 rfl g12 g13 (fun c11 => ?_) (fun c11 => ?_)
      · replace h := ite_f (c11) h
        refine t_l fX9_study_23 rfl rfl rfl rfl ?_
        refine k9_gr fX9_study_24 (hr0).1 kg_9_8 (s9_8r hr0) ?_
        refine t_l fX9_study_27 rfl rfl rfl rfl ?_
        refine t_l fX9_study_28 rfl rfl rfl rfl ?_
        obtain ⟨V14, v15, e16, h⟩ := bd_some h
        refine kcX4_pointsOf fX9_study_29 (s9_8s hr0).1 rfl (q_X4_pointsOf (s9_8s hr0) e16) (by decide) ?_
        refine t_l fX9_study_32 rfl rfl rfl rfl ?_
        refine t_s fX9_study_33 rfl rfl rfl ?_
        refine t_l fX9_study_34 rfl rfl rfl rfl ?_
        obtain ⟨V28, u29, e30, h⟩ := bd_some h
        refine tl_X9_study_36 hr0  (fun e31 => ?_) (fun e31 => ?_) e30
        · replace h := ite_t e31 h
          refine t_l fX9_study_67 rfl rfl rfl rfl ?_
          refine t_ret fX9_study_69 rX9_study ?_
          exact qf_i h
        · replace h := ite_f (by omega) h
          refine t_s fX9_study_98 rfl rfl rfl ?_
          refine t_ret fX9_study_99 rX9_study ?_
          exact qf_i h
      · replace h := ite_t (Classical.not_not.mp c11) h
        refine t_s fX9_study_21 rfl rfl rfl ?_
        refine t_ret fX9_study_22 rX9_study ?_
        exact qf_i h

theorem tb_X9_change_62 {X : mX} {n z : Nat} {G : mG} {r0 : Nat} (hr0 : is9 G r0) {x1 x2 x3 x4 x5 : Int} {V V' : mV} {q : Nat × Int} {Q : Nat → Nat → mG → mV → Option Value → Prop} (h0 : q.1 = 0 → T X (7) 124 62 [some (.ref r0), some (.int (iI x1)), some (.int (iI x2)), some (.int (iI x3)), some (.int (iI x4)), some (.int (iI q.2))] [] n z G V' Q) (h1 : q.1 = 1 → ∀ j4 : Option Value, T X (7) 124 111 [some (.ref r0), some (.int (iI x1)), some (.int (iI x2)), some (.int (iI x3)), j4, some (.int (iI q.2))] [] n z G V' Q) (h : B_X9_change_62 G r0 x1 x2 x3 x4 x5 V = some (V', q)) : T X (7) 124 62 [some (.ref r0), some (.int (iI x1)), some (.int (iI x2)), some (.int (iI x3)), some (.int (iI x4)), some (.int (iI x5))] [] n z G V Q := by
  unfold B_X9_change_62 at h
  refine t_l fX9_change_62 rfl rfl rfl rfl ?_
  refine t_l fX9_change_64 rfl rfl rfl rfl ?_
  obtain ⟨g18, h⟩ := gd_some h
  obtain ⟨g19, h⟩ := gd_some h
  refine k9_ic_ge fX9_change_65 rfl g18 g19 (fun c17 => ?_) (fun c17 => ?_)
  · replace h := ite_t (c17) h
    cases h
    exact h1 rfl _
  · replace h := ite_f (c17) h
    refine t_l fX9_change_68 rfl rfl rfl rfl ?_
    refine t_l fX9_change_70 rfl rfl rfl rfl ?_
    obtain ⟨g21, h⟩ := gd_some h
    refine k9_ic_eq fX9_change_71 rfl g18 g21 (fun c20 => ?_) (fun c20 => ?_)
    · replace h := ite_t (c20) h
      replace h := lt_some h
      refine k9_iinc fX9_change_105 rfl (Nat.le_of_ble_eq_true rfl) rfl ?_
      refine k9_goto fX9_change_108 rfl ?_
      cases h
      exact h0 rfl
    · replace h := ite_f (c20) h
      refine t_l fX9_change_74 rfl rfl rfl rfl ?_
      refine k9_gr fX9_change_75 (hr0).1 kg_9_6 (s9_6r hr0) ?_
      refine t_l fX9_change_78 rfl rfl rfl rfl ?_
      refine t_l fX9_change_79 rfl rfl rfl rfl ?_
      refine t_l fX9_change_81 rfl rfl rfl rfl ?_
      refine t_l fX9_change_83 rfl rfl rfl rfl ?_
      refine k9_gr fX9_change_84 (hr0).1 kg_9_5 (s9_5r hr0) ?_
      refine t_l fX9_change_87 rfl rfl rfl rfl ?_
      refine k9_gr fX9_change_88 (hr0).1 kg_9_10 (s9_10r hr0) ?_
      refine t_l fX9_change_91 rfl rfl rfl rfl ?_
      refine k9_gr fX9_change_92 (hr0).1 kg_9_8 (s9_8r hr0) ?_
      refine t_l fX9_change_95 rfl rfl rfl rfl ?_
      refine t_l fX9_change_97 rfl rfl rfl rfl ?_
      obtain ⟨V23, v24, e25, h⟩ := bd_some h
      refine kcX2_countAble fX9_change_98 (s9_5s hr0).1 rfl rfl rfl (q_X2_countAble (s9_5s hr0) (s9_10s hr0) (s9_8s hr0) e25) (by decide) ?_
      refine k9_isub fX9_change_101 ?_
      obtain ⟨V26, v27, e28, h⟩ := bd_some h
      refine kcX0_setCost fX9_change_102 (s9_6s hr0).1 rfl (q_X0_setCost (s9_6s hr0) e28) (by decide) ?_
      replace h := lt_some h
      refine k9_iinc fX9_change_105 rfl (Nat.le_of_ble_eq_true rfl) rfl ?_
      refine k9_goto fX9_change_108 rfl ?_
      cases h
      exact h0 rfl

theorem tl_X9_change_62 {X : mX} {n z : Nat} {G : mG} {r0 : Nat} (hr0 : is9 G r0) {x1 x2 x3 x4 x5 : Int} {V V' : mV} {fu : Nat} {q : Nat × Int} {Q : Nat → Nat → mG → mV → Option Value → Prop} (k1 : q.1 = 1 → ∀ j4 : Option Value, T X (7) 124 111 [some (.ref r0), some (.int (iI x1)), some (.int (iI x2)), some (.int (iI x3)), j4, some (.int (iI q.2))] [] n z G V' Q) (h : lp (fun (s : Int) V => B_X9_change_62 G r0 x1 x2 x3 x4 s V) fu x5 V = some (V', q)) : T X (7) 124 62 [some (.ref r0), some (.int (iI x1)), some (.int (iI x2)), some (.int (iI x3)), some (.int (iI x4)), some (.int (iI x5))] [] n z G V Q :=
  lp_go (P0 := fun s V => T X (7) 124 62 [some (.ref r0), some (.int (iI x1)), some (.int (iI x2)), some (.int (iI x3)), some (.int (iI x4)), some (.int (iI s))] [] n z G V Q) (PE := fun t s V => (t = 1 → ∀ j4 : Option Value, T X (7) 124 111 [some (.ref r0), some (.int (iI x1)), some (.int (iI x2)), some (.int (iI x3)), j4, some (.int (iI s))] [] n z G V Q)) (fun s V V' q hb h0 h1 => tb_X9_change_62 hr0  h0 (fun e => (h1 (by omega)) e) hb) fu x5 V V' q h k1

theorem tb_X9_change_41 {X : mX} {n z : Nat} {G : mG} {r0 : Nat} (hr0 : is9 G r0) {x1 x2 x3 : Int} {j4 j5 : Option Value} {V V' : mV} {q : Nat × Int} {Q : Nat → Nat → mG → mV → Option Value → Prop} (h0 : q.1 = 0 → ∀ j4 j5 : Option Value, T X (7) 124 41 [some (.ref r0), some (.int (iI x1)), some (.int (iI x2)), some (.int (iI q.2)), j4, j5] [] n z G V' Q) (h1 : q.1 = 1 → ∀ j2 j4 j5 : Option Value, T X (7) 124 117 [some (.ref r0), some (.int (iI x1)), j2, some (.int (iI q.2)), j4, j5] [] n z G V' Q) (h : B_X9_change_41 G r0 x1 x2 x3 V = some (V', q)) : T X (7) 124 41 [some (.ref r0), some (.int (iI x1)), some (.int (iI x2)), some (.int (iI x3)), j4, j5] [] n z G V Q := by
  unfold B_X9_change_41 at h
  refine t_l fX9_change_41 rfl rfl rfl rfl ?_
  refine t_l fX9_change_42 rfl rfl rfl rfl ?_
  obtain ⟨g12, h⟩ := gd_some h
  obtain ⟨g13, h⟩ := gd_some h
  refine k9_ic_ge fX9_change_43 rfl g12 g13 (fun c11 => ?_) (fun c11 => ?_)
  · replace h := ite_t (c11) h
    cases h
    exact h1 rfl _ _ _
  · replace h := ite_f (c11) h
    refine t_l fX9_change_46 rfl rfl rfl rfl ?_
    refine k9_gr fX9_change_47 (hr0).1 kg_9_10 (s9_10r hr0) ?_
    refine k9_gr fX9_change_50 (s9_10s hr0).1 kg_1_7 (s1_7r (s9_10s hr0)) ?_
    refine t_l fX9_change_53 rfl rfl rfl rfl ?_
    obtain ⟨V14, v15, e16, h⟩ := bd_some h
    refine kcX7_count fX9_change_54 (s1_7s (s9_10s hr0)).1 rfl (q_X7_count (s1_7s (s9_10s hr0)) e16) (by decide) ?_
    refine t_l fX9_change_57 rfl rfl rfl rfl ?_
    refine t_s fX9_change_59 rfl rfl rfl ?_
    refine t_l fX9_change_60 rfl rfl rfl rfl ?_
    obtain ⟨V30, u31, e32, h⟩ := bd_some h
    refine tl_X9_change_62 hr0  (fun e33 j4 => ?_) e32
    replace h := lt_some h
    refine k9_iinc fX9_change_111 rfl (Nat.le_of_ble_eq_true rfl) rfl ?_
    refine k9_goto fX9_change_114 rfl ?_
    cases h
    exact h0 rfl _ _

theorem tl_X9_change_41 {X : mX} {n z : Nat} {G : mG} {r0 : Nat} (hr0 : is9 G r0) {x1 x2 x3 : Int} {j4 j5 : Option Value} {V V' : mV} {fu : Nat} {q : Nat × Int} {Q : Nat → Nat → mG → mV → Option Value → Prop} (k1 : q.1 = 1 → ∀ j2 j4 j5 : Option Value, T X (7) 124 117 [some (.ref r0), some (.int (iI x1)), j2, some (.int (iI q.2)), j4, j5] [] n z G V' Q) (h : lp (fun (s : Int) V => B_X9_change_41 G r0 x1 x2 s V) fu x3 V = some (V', q)) : T X (7) 124 41 [some (.ref r0), some (.int (iI x1)), some (.int (iI x2)), some (.int (iI x3)), j4, j5] [] n z G V Q :=
  lp_go (P0 := fun s V => ∀ j4 j5 : Option Value, T X (7) 124 41 [some (.ref r0), some (.int (iI x1)), some (.int (iI x2)), some (.int (iI s)), j4, j5] [] n z G V Q) (PE := fun t s V => (t = 1 → ∀ j2 j4 j5 : Option Value, T X (7) 124 117 [some (.ref r0), some (.int (iI x1)), j2, some (.int (iI s)), j4, j5] [] n z G V Q)) (fun s V V' q hb h0 h1 => fun _ _ => tb_X9_change_41 hr0  h0 (fun e => (h1 (by omega)) e) hb) fu x3 V V' q h k1 _ _

theorem tj_X9_change_J31 {X : mX} {n z : Nat} {G : mG} {r0 : Nat} (hr0 : is9 G r0) {x1 x2 : Int} {j3 j4 j5 : Option Value} {V V' : mV} {v : Int} (h : F_X9_change_J31 G r0 x1 x2 V = some (V', v)) : T X (7) 124 31 [some (.ref r0), some (.int (iI x1)), some (.int (iI x2)), j3, j4, j5] [] n z G V (qi n z G V' v) := by
  unfold F_X9_change_J31 at h
  refine t_l fX9_change_31 rfl rfl rfl rfl ?_
  refine k9_gr fX9_change_32 (hr0).1 kg_9_6 (s9_6r hr0) ?_
  refine t_l fX9_change_35 rfl rfl rfl rfl ?_
  obtain ⟨V8, v9, e10, h⟩ := bd_some h
  refine kcX0_begin fX9_change_36 (s9_6s hr0).1 rfl (q_X0_begin (s9_6s hr0) e10) (by decide) ?_
  refine t_s fX9_change_39 rfl rfl rfl ?_
  refine t_l fX9_change_40 rfl rfl rfl rfl ?_
  obtain ⟨V35, u36, e37, h⟩ := bd_some h
  refine tl_X9_change_41 hr0  (fun e38 j2 j4 j5 => ?_) e37
  refine t_l fX9_change_117 rfl rfl rfl rfl ?_
  refine k9_gr fX9_change_118 (hr0).1 kg_9_6 (s9_6r hr0) ?_
  obtain ⟨V39, v40, e41, h⟩ := bd_some h
  refine kcX0_work fX9_change_121 (s9_6s hr0).1 rfl (q_X0_work (s9_6s hr0) e41) (by decide) ?_
  refine t_l fX9_change_124 rfl rfl rfl rfl ?_
  refine t_s fX9_change_125 rfl rfl rfl ?_
  obtain ⟨g43, h⟩ := gd_some h
  refine k9_ic_ne fX9_change_126 rfl g43 ⟨by decide, by decide⟩ (fun c42 => ?_) (fun c42 => ?_)
  · replace h := ite_f (c42) h
    refine t_l fX9_change_139 rfl rfl rfl rfl ?_
    refine k9_gr fX9_change_140 (hr0).1 kg_9_6 (s9_6r hr0) ?_
    refine t_l fX9_change_143 rfl rfl rfl rfl ?_
    obtain ⟨V44, v45, e46, h⟩ := bd_some h
    refine kcX0_whoLives fX9_change_144 (s9_6s hr0).1 rfl (q_X0_whoLives (s9_6s hr0) e46) (by decide) ?_
    refine t_ret fX9_change_147 rX9_change ?_
    exact qf_i h
  · replace h := ite_t (Classical.not_not.mp c42) h
    refine t_l fX9_change_129 rfl rfl rfl rfl ?_
    refine k9_gr fX9_change_130 (hr0).1 kg_9_6 (s9_6r hr0) ?_
    obtain ⟨V47, v48, e49, h⟩ := bd_some h
    refine kcX0_cost fX9_change_133 (s9_6s hr0).1 rfl (q_X0_cost (s9_6s hr0) e49) (by decide) ?_
    refine k9_goto fX9_change_136 rfl ?_
    refine t_ret fX9_change_147 rX9_change ?_
    exact qf_i h

theorem q_X9_change {X : mX} {n z : Nat} {G : mG} {r0 : Nat} (hr0 : is9 G r0) {x1 : Int} {V V' : mV} {v : Int} (h : F_X9_change G r0 x1 V = some (V', v)) : Rn X (7) 124 [.ref r0, .int (iI x1)] n z G V n z G V' (some (.int (iI v))) := by
  refine qi_toR (v := v) (L := [some (.ref r0), some (.int (iI x1)), none, none, none, none]) rfl ?_
  unfold F_X9_change at h
  refine t_l fX9_change_0 rfl rfl rfl rfl ?_
  refine k9_gr fX9_change_1 (hr0).1 kg_9_10 (s9_10r hr0) ?_
  refine k9_gr fX9_change_4 (s9_10s hr0).1 kg_1_0 (s1_0r (s9_10s hr0)) ?_
  obtain ⟨V1, v2, e3, h⟩ := bd_some h
  refine kcX7_size fX9_change_7 (s1_0s (s9_10s hr0)).1 rfl (q_X7_size (s1_0s (s9_10s hr0)) e3) (by decide) ?_
  refine t_l fX9_change_10 rfl rfl rfl rfl ?_
  refine t_l fX9_change_11 rfl rfl rfl rfl ?_
  refine t_s fX9_change_12 rfl rfl rfl ?_
  obtain ⟨g5, h⟩ := gd_some h
  refine k9_ic_lt fX9_change_13 rfl g5 ⟨by decide, by decide⟩ (fun c4 => ?_) (fun c4 => ?_)
  · replace h := ite_t (c4) h
    refine t_s fX9_change_29 rfl rfl rfl ?_
    refine t_ret fX9_change_30 rX9_change ?_
    exact qf_i h
  · replace h := ite_f (c4) h
    refine t_l fX9_change_16 rfl rfl rfl rfl ?_
    refine t_s fX9_change_17 rfl rfl rfl ?_
    obtain ⟨g7, h⟩ := gd_some h
    refine k9_ic_eq fX9_change_18 rfl g7 ⟨by decide, by decide⟩ (fun c6 => ?_) (fun c6 => ?_)
    · replace h := ite_t (c6) h
      exact tj_X9_change_J31 hr0   h
    · replace h := ite_f (c6) h
      refine t_l fX9_change_21 rfl rfl rfl rfl ?_
      refine t_l fX9_change_22 rfl rfl rfl rfl ?_
      obtain ⟨V50, v51, e52, h⟩ := bd_some h
      refine kcX9_isPerson fX9_change_23 (hr0).1 rfl (q_X9_isPerson (hr0) e52) (by decide) ?_
      obtain ⟨g54, h⟩ := gd_some h
      refine k9_if_ne fX9_change_26 rfl g54 (fun c53 => ?_) (fun c53 => ?_)
      · replace h := ite_f (c53) h
        exact tj_X9_change_J31 hr0   h
      · replace h := ite_t (Classical.not_not.mp c53) h
        refine t_s fX9_change_29 rfl rfl rfl ?_
        refine t_ret fX9_change_30 rX9_change ?_
        exact qf_i h

theorem tb_X9_ring_14 {X : mX} {n z : Nat} {G : mG} {r0 : Nat} (hr0 : is9 G r0) {x1 x2 x3 : Int} {V V' : mV} {q : Nat × Int × Int} {Q : Nat → Nat → mG → mV → Option Value → Prop} (h0 : q.1 = 0 → T X (2) 125 14 [some (.ref r0), some (.int (iI x1)), some (.int (iI q.2.1)), some (.int (iI q.2.2))] [] n z G V' Q) (h1 : q.1 = 1 → T X (2) 125 42 [some (.ref r0), some (.int (iI x1)), some (.int (iI q.2.1)), some (.int (iI q.2.2))] [] n z G V' Q) (h2 : q.1 = 2 → T X (2) 125 50 [some (.ref r0), some (.int (iI x1)), some (.int (iI q.2.1)), some (.int (iI q.2.2))] [] n z G V' Q) (h : B_X9_ring_14 G r0 x1 x2 x3 V = some (V', q)) : T X (2) 125 14 [some (.ref r0), some (.int (iI x1)), some (.int (iI x2)), some (.int (iI x3))] [] n z G V Q := by
  unfold B_X9_ring_14 at h
  refine t_l fX9_ring_14 rfl rfl rfl rfl ?_
  refine t_s fX9_ring_15 rfl rfl rfl ?_
  obtain ⟨g7, h⟩ := gd_some h
  refine k9_ic_gt fX9_ring_17 rfl g7 ⟨by decide, by decide⟩ (fun c6 => ?_) (fun c6 => ?_)
  · replace h := ite_t (c6) h
    cases h
    exact h2 rfl
  · replace h := ite_f (c6) h
    refine t_l fX9_ring_20 rfl rfl rfl rfl ?_
    refine t_s fX9_ring_21 rfl rfl rfl ?_
    obtain ⟨g9, h⟩ := gd_some h
    refine k9_ic_eq fX9_ring_22 rfl g9 ⟨by decide, by decide⟩ (fun c8 => ?_) (fun c8 => ?_)
    · replace h := ite_t (c8) h
      cases h
      exact h2 rfl
    · replace h := ite_f (c8) h
      refine t_l fX9_ring_25 rfl rfl rfl rfl ?_
      refine k9_gr fX9_ring_26 (hr0).1 kg_9_10 (s9_10r hr0) ?_
      refine k9_gr fX9_ring_29 (s9_10s hr0).1 kg_1_2 (s1_2r (s9_10s hr0)) ?_
      refine t_l fX9_ring_32 rfl rfl rfl rfl ?_
      obtain ⟨V10, v11, e12, h⟩ := bd_some h
      refine kcX7_get fX9_ring_33 (s1_2s (s9_10s hr0)).1 rfl (q_X7_get (s1_2s (s9_10s hr0)) e12) (by decide) ?_
      refine t_l fX9_ring_36 rfl rfl rfl rfl ?_
      refine t_l fX9_ring_37 rfl rfl rfl rfl ?_
      refine t_l fX9_ring_38 rfl rfl rfl rfl ?_
      obtain ⟨g14, h⟩ := gd_some h
      obtain ⟨g15, h⟩ := gd_some h
      refine k9_ic_ne fX9_ring_39 rfl g14 g15 (fun c13 => ?_) (fun c13 => ?_)
      · replace h := ite_f (c13) h
        replace h := lt_some h
        refine k9_iinc fX9_ring_44 rfl (Nat.le_of_ble_eq_true rfl) rfl ?_
        refine k9_goto fX9_ring_47 rfl ?_
        cases h
        exact h0 rfl
      · replace h := ite_t (Classical.not_not.mp c13) h
        cases h
        exact h1 rfl

theorem tl_X9_ring_14 {X : mX} {n z : Nat} {G : mG} {r0 : Nat} (hr0 : is9 G r0) {x1 x2 x3 : Int} {V V' : mV} {fu : Nat} {q : Nat × Int × Int} {Q : Nat → Nat → mG → mV → Option Value → Prop} (k1 : q.1 = 1 → T X (2) 125 42 [some (.ref r0), some (.int (iI x1)), some (.int (iI q.2.1)), some (.int (iI q.2.2))] [] n z G V' Q) (k2 : q.1 = 2 → T X (2) 125 50 [some (.ref r0), some (.int (iI x1)), some (.int (iI q.2.1)), some (.int (iI q.2.2))] [] n z G V' Q) (h : lp (fun (s : Int × Int) V => B_X9_ring_14 G r0 x1 s.1 s.2 V) fu (x2, x3) V = some (V', q)) : T X (2) 125 14 [some (.ref r0), some (.int (iI x1)), some (.int (iI x2)), some (.int (iI x3))] [] n z G V Q :=
  lp_go (P0 := fun s V => T X (2) 125 14 [some (.ref r0), some (.int (iI x1)), some (.int (iI s.1)), some (.int (iI s.2))] [] n z G V Q) (PE := fun t s V => (t = 1 → T X (2) 125 42 [some (.ref r0), some (.int (iI x1)), some (.int (iI s.1)), some (.int (iI s.2))] [] n z G V Q) ∧ (t = 2 → T X (2) 125 50 [some (.ref r0), some (.int (iI x1)), some (.int (iI s.1)), some (.int (iI s.2))] [] n z G V Q)) (fun s V V' q hb h0 h1 => tb_X9_ring_14 hr0  h0 (fun e => (h1 (by omega)).1 e) (fun e => (h1 (by omega)).2 e) hb) fu (x2, x3) V V' q h ⟨k1, k2⟩

theorem q_X9_ring {X : mX} {n z : Nat} {G : mG} {r0 : Nat} (hr0 : is9 G r0) {x1 : Int} {V V' : mV} {v : Int} (h : F_X9_ring G r0 x1 V = some (V', v)) : Rn X (2) 125 [.ref r0, .int (iI x1)] n z G V n z G V' (some (.int (iI v))) := by
  refine qi_toR (v := v) (L := [some (.ref r0), some (.int (iI x1)), none, none]) rfl ?_
  unfold F_X9_ring at h
  refine t_l fX9_ring_0 rfl rfl rfl rfl ?_
  refine t_l fX9_ring_1 rfl rfl rfl rfl ?_
  obtain ⟨V1, v2, e3, h⟩ := bd_some h
  refine kcX9_isPerson fX9_ring_2 (hr0).1 rfl (q_X9_isPerson (hr0) e3) (by decide) ?_
  obtain ⟨g5, h⟩ := gd_some h
  refine k9_if_ne fX9_ring_5 rfl g5 (fun c4 => ?_) (fun c4 => ?_)
  · replace h := ite_f (c4) h
    refine t_l fX9_ring_10 rfl rfl rfl rfl ?_
    refine t_l fX9_ring_11 rfl rfl rfl rfl ?_
    refine t_s fX9_ring_12 rfl rfl rfl ?_
    refine t_l fX9_ring_13 rfl rfl rfl rfl ?_
    obtain ⟨V17, u18, e19, h⟩ := bd_some h
    refine tl_X9_ring_14 hr0  (fun e20 => ?_) (fun e20 => ?_) e19
    · replace h := ite_t e20 h
      refine t_l fX9_ring_42 rfl rfl rfl rfl ?_
      refine t_ret fX9_ring_43 rX9_ring ?_
      exact qf_i h
    · replace h := ite_f (by omega) h
      refine t_s fX9_ring_50 rfl rfl rfl ?_
      refine t_ret fX9_ring_51 rX9_ring ?_
      exact qf_i h
  · replace h := ite_t (Classical.not_not.mp c4) h
    refine t_s fX9_ring_8 rfl rfl rfl ?_
    refine t_ret fX9_ring_9 rX9_ring ?_
    exact qf_i h

theorem tb_X9_odds_52 {X : mX} {n z : Nat} {G : mG} {r0 : Nat} (hr0 : is9 G r0) {x1 x2 x3 x4 x5 x6 : Int} {j7 j8 : Option Value} {V V' : mV} {q : Nat × Int × Int} {Q : Nat → Nat → mG → mV → Option Value → Prop} (h0 : q.1 = 0 → ∀ j7 j8 : Option Value, T X (3) 126 52 [some (.ref r0), some (.int (iI x1)), some (.int (iI x2)), some (.int (iI x3)), some (.int (iI x4)), some (.int (iI q.2.1)), some (.int (iI q.2.2)), j7, j8] [] n z G V' Q) (h1 : q.1 = 1 → ∀ j7 j8 : Option Value, T X (3) 126 109 [some (.ref r0), some (.int (iI x1)), some (.int (iI x2)), some (.int (iI x3)), some (.int (iI x4)), some (.int (iI q.2.1)), some (.int (iI q.2.2)), j7, j8] [] n z G V' Q) (h : B_X9_odds_52 G r0 x1 x2 x3 x4 x5 x6 V = some (V', q)) : T X (3) 126 52 [some (.ref r0), some (.int (iI x1)), some (.int (iI x2)), some (.int (iI x3)), some (.int (iI x4)), some (.int (iI x5)), some (.int (iI x6)), j7, j8] [] n z G V Q := by
  unfold B_X9_odds_52 at h
  refine t_l fX9_odds_52 rfl rfl rfl rfl ?_
  refine t_l fX9_odds_54 rfl rfl rfl rfl ?_
  obtain ⟨g21, h⟩ := gd_some h
  obtain ⟨g22, h⟩ := gd_some h
  refine k9_ic_ge fX9_odds_56 rfl g21 g22 (fun c20 => ?_) (fun c20 => ?_)
  · replace h := ite_t (c20) h
    cases h
    exact h1 rfl _ _
  · replace h := ite_f (c20) h
    refine t_l fX9_odds_59 rfl rfl rfl rfl ?_
    refine k9_gr fX9_odds_60 (hr0).1 kg_9_9 (s9_9r hr0) ?_
    refine t_l fX9_odds_63 rfl rfl rfl rfl ?_
    obtain ⟨V23, v24, e25, h⟩ := bd_some h
    refine kcX4_goHome fX9_odds_65 (s9_9s hr0).1 rfl (q_X4_goHome (s9_9s hr0) e25) (by decide) ?_
    refine t_l fX9_odds_68 rfl rfl rfl rfl ?_
    refine k9_gr fX9_odds_69 (hr0).1 kg_9_5 (s9_5r hr0) ?_
    refine t_l fX9_odds_72 rfl rfl rfl rfl ?_
    refine k9_gr fX9_odds_73 (hr0).1 kg_9_10 (s9_10r hr0) ?_
    refine t_l fX9_odds_76 rfl rfl rfl rfl ?_
    refine k9_gr fX9_odds_77 (hr0).1 kg_9_9 (s9_9r hr0) ?_
    refine t_l fX9_odds_80 rfl rfl rfl rfl ?_
    obtain ⟨V26, v27, e28, h⟩ := bd_some h
    refine kcX2_sendAway fX9_odds_82 (s9_5s hr0).1 rfl rfl rfl (q_X2_sendAway (s9_5s hr0) (s9_10s hr0) (s9_9s hr0) e28) (by decide) ?_
    refine t_l fX9_odds_85 rfl rfl rfl rfl ?_
    refine k9_gr fX9_odds_86 (hr0).1 kg_9_9 (s9_9r hr0) ?_
    refine k9_gr fX9_odds_89 (s9_9s hr0).1 kg_4_1 (s4_1r (s9_9s hr0)) ?_
    refine t_l fX9_odds_92 rfl rfl rfl rfl ?_
    obtain ⟨V29, v30, e31, h⟩ := bd_some h
    refine kcX7_get fX9_odds_93 (s4_1s (s9_9s hr0)).1 rfl (q_X7_get (s4_1s (s9_9s hr0)) e31) (by decide) ?_
    refine t_l fX9_odds_96 rfl rfl rfl rfl ?_
    obtain ⟨g33, h⟩ := gd_some h
    obtain ⟨g34, h⟩ := gd_some h
    refine k9_ic_eq fX9_odds_97 rfl g33 g34 (fun c32 => ?_) (fun c32 => ?_)
    · replace h := ite_t (c32) h
      replace h := lt_some h
      refine k9_iinc fX9_odds_103 rfl (Nat.le_of_ble_eq_true rfl) rfl ?_
      refine k9_goto fX9_odds_106 rfl ?_
      cases h
      exact h0 rfl _ _
    · replace h := ite_f (c32) h
      replace h := lt_some h
      refine k9_iinc fX9_odds_100 rfl (Nat.le_of_ble_eq_true rfl) rfl ?_
      replace h := lt_some h
      refine k9_iinc fX9_odds_103 rfl (Nat.le_of_ble_eq_true rfl) rfl ?_
      refine k9_goto fX9_odds_106 rfl ?_
      cases h
      exact h0 rfl _ _

theorem tl_X9_odds_52 {X : mX} {n z : Nat} {G : mG} {r0 : Nat} (hr0 : is9 G r0) {x1 x2 x3 x4 x5 x6 : Int} {j7 j8 : Option Value} {V V' : mV} {fu : Nat} {q : Nat × Int × Int} {Q : Nat → Nat → mG → mV → Option Value → Prop} (k1 : q.1 = 1 → ∀ j7 j8 : Option Value, T X (3) 126 109 [some (.ref r0), some (.int (iI x1)), some (.int (iI x2)), some (.int (iI x3)), some (.int (iI x4)), some (.int (iI q.2.1)), some (.int (iI q.2.2)), j7, j8] [] n z G V' Q) (h : lp (fun (s : Int × Int) V => B_X9_odds_52 G r0 x1 x2 x3 x4 s.1 s.2 V) fu (x5, x6) V = some (V', q)) : T X (3) 126 52 [some (.ref r0), some (.int (iI x1)), some (.int (iI x2)), some (.int (iI x3)), some (.int (iI x4)), some (.int (iI x5)), some (.int (iI x6)), j7, j8] [] n z G V Q :=
  lp_go (P0 := fun s V => ∀ j7 j8 : Option Value, T X (3) 126 52 [some (.ref r0), some (.int (iI x1)), some (.int (iI x2)), some (.int (iI x3)), some (.int (iI x4)), some (.int (iI s.1)), some (.int (iI s.2)), j7, j8] [] n z G V Q) (PE := fun t s V => (t = 1 → ∀ j7 j8 : Option Value, T X (3) 126 109 [some (.ref r0), some (.int (iI x1)), some (.int (iI x2)), some (.int (iI x3)), some (.int (iI x4)), some (.int (iI s.1)), some (.int (iI s.2)), j7, j8] [] n z G V Q)) (fun s V V' q hb h0 h1 => fun _ _ => tb_X9_odds_52 hr0  h0 (fun e => (h1 (by omega)) e) hb) fu (x5, x6) V V' q h k1 _ _

theorem tb_X9_odds_118 {X : mX} {n z : Nat} {G : mG} {r0 : Nat} (hr0 : is9 G r0) {x1 x2 x3 x4 x5 x6 x7 x8 : Int} {V V' : mV} {q : Nat × Int × Int × Int} {Q : Nat → Nat → mG → mV → Option Value → Prop} (h0 : q.1 = 0 → T X (3) 126 118 [some (.ref r0), some (.int (iI x1)), some (.int (iI x2)), some (.int (iI x3)), some (.int (iI x4)), some (.int (iI x5)), some (.int (iI q.2.1)), some (.int (iI q.2.2.1)), some (.int (iI q.2.2.2))] [] n z G V' Q) (h1 : q.1 = 1 → ∀ j4 j5 : Option Value, T X (3) 126 144 [some (.ref r0), some (.int (iI x1)), some (.int (iI x2)), some (.int (iI x3)), j4, j5, some (.int (iI q.2.1)), some (.int (iI q.2.2.1)), some (.int (iI q.2.2.2))] [] n z G V' Q) (h : B_X9_odds_118 G r0 x1 x2 x3 x4 x5 x6 x7 x8 V = some (V', q)) : T X (3) 126 118 [some (.ref r0), some (.int (iI x1)), some (.int (iI x2)), some (.int (iI x3)), some (.int (iI x4)), some (.int (iI x5)), some (.int (iI x6)), some (.int (iI x7)), some (.int (iI x8))] [] n z G V Q := by
  unfold B_X9_odds_118 at h
  refine t_l fX9_odds_118 rfl rfl rfl rfl ?_
  refine t_l fX9_odds_120 rfl rfl rfl rfl ?_
  obtain ⟨g43, h⟩ := gd_some h
  obtain ⟨g44, h⟩ := gd_some h
  refine k9_ic_ge fX9_odds_121 rfl g43 g44 (fun c42 => ?_) (fun c42 => ?_)
  · replace h := ite_t (c42) h
    cases h
    exact h1 rfl _ _
  · replace h := ite_f (c42) h
    refine t_l fX9_odds_124 rfl rfl rfl rfl ?_
    refine t_l fX9_odds_126 rfl rfl rfl rfl ?_
    refine k9_imul fX9_odds_128 ?_
    replace h := lt_some h
    refine t_l fX9_odds_129 rfl rfl rfl rfl ?_
    refine t_l fX9_odds_131 rfl rfl rfl rfl ?_
    refine t_l fX9_odds_133 rfl rfl rfl rfl ?_
    refine k9_imul fX9_odds_135 ?_
    replace h := lt_some h
    refine t_l fX9_odds_136 rfl rfl rfl rfl ?_
    replace h := lt_some h
    refine k9_iinc fX9_odds_138 rfl (Nat.le_of_ble_eq_true rfl) rfl ?_
    refine k9_goto fX9_odds_141 rfl ?_
    cases h
    exact h0 rfl

theorem tl_X9_odds_118 {X : mX} {n z : Nat} {G : mG} {r0 : Nat} (hr0 : is9 G r0) {x1 x2 x3 x4 x5 x6 x7 x8 : Int} {V V' : mV} {fu : Nat} {q : Nat × Int × Int × Int} {Q : Nat → Nat → mG → mV → Option Value → Prop} (k1 : q.1 = 1 → ∀ j4 j5 : Option Value, T X (3) 126 144 [some (.ref r0), some (.int (iI x1)), some (.int (iI x2)), some (.int (iI x3)), j4, j5, some (.int (iI q.2.1)), some (.int (iI q.2.2.1)), some (.int (iI q.2.2.2))] [] n z G V' Q) (h : lp (fun (s : Int × Int × Int) V => B_X9_odds_118 G r0 x1 x2 x3 x4 x5 s.1 s.2.1 s.2.2 V) fu (x6, x7, x8) V = some (V', q)) : T X (3) 126 118 [some (.ref r0), some (.int (iI x1)), some (.int (iI x2)), some (.int (iI x3)), some (.int (iI x4)), some (.int (iI x5)), some (.int (iI x6)), some (.int (iI x7)), some (.int (iI x8))] [] n z G V Q :=
  lp_go (P0 := fun s V => T X (3) 126 118 [some (.ref r0), some (.int (iI x1)), some (.int (iI x2)), some (.int (iI x3)), some (.int (iI x4)), some (.int (iI x5)), some (.int (iI s.1)), some (.int (iI s.2.1)), some (.int (iI s.2.2))] [] n z G V Q) (PE := fun t s V => (t = 1 → ∀ j4 j5 : Option Value, T X (3) 126 144 [some (.ref r0), some (.int (iI x1)), some (.int (iI x2)), some (.int (iI x3)), j4, j5, some (.int (iI s.1)), some (.int (iI s.2.1)), some (.int (iI s.2.2))] [] n z G V Q)) (fun s V V' q hb h0 h1 => tb_X9_odds_118 hr0  h0 (fun e => (h1 (by omega)) e) hb) fu (x6, x7, x8) V V' q h k1

theorem q_X9_odds {X : mX} {n z : Nat} {G : mG} {r0 : Nat} (hr0 : is9 G r0) {x1 x2 x3 : Int} {V V' : mV} {v : Int} (h : F_X9_odds G r0 x1 x2 x3 V = some (V', v)) : Rn X (3) 126 [.ref r0, .int (iI x1), .int (iI x2), .int (iI x3)] n z G V n z G V' (some (.int (iI v))) := by
  refine qi_toR (v := v) (L := [some (.ref r0), some (.int (iI x1)), some (.int (iI x2)), some (.int (iI x3)), none, none, none, none, none]) rfl ?_
  unfold F_X9_odds at h
  refine t_l fX9_odds_0 rfl rfl rfl rfl ?_
  refine t_l fX9_odds_1 rfl rfl rfl rfl ?_
  obtain ⟨V1, v2, e3, h⟩ := bd_some h
  refine kcX9_isPerson fX9_odds_2 (hr0).1 rfl (q_X9_isPerson (hr0) e3) (by decide) ?_
  obtain ⟨g5, h⟩ := gd_some h
  refine k9_if_eq fX9_odds_5 rfl g5 (fun c4 => ?_) (fun c4 => ?_)
  · replace h := ite_t (c4) h
    refine t_s fX9_odds_21 rfl rfl rfl ?_
    refine t_ret fX9_odds_22 rX9_odds ?_
    exact qf_i h
  · replace h := ite_f (c4) h
    refine t_l fX9_odds_8 rfl rfl rfl rfl ?_
    refine t_l fX9_odds_9 rfl rfl rfl rfl ?_
    obtain ⟨V6, v7, e8, h⟩ := bd_some h
    refine kcX9_isPerson fX9_odds_10 (hr0).1 rfl (q_X9_isPerson (hr0) e8) (by decide) ?_
    obtain ⟨g10, h⟩ := gd_some h
    refine k9_if_eq fX9_odds_13 rfl g10 (fun c9 => ?_) (fun c9 => ?_)
    · replace h := ite_t (c9) h
      refine t_s fX9_odds_21 rfl rfl rfl ?_
      refine t_ret fX9_odds_22 rX9_odds ?_
      exact qf_i h
    · replace h := ite_f (c9) h
      refine t_l fX9_odds_16 rfl rfl rfl rfl ?_
      refine t_l fX9_odds_17 rfl rfl rfl rfl ?_
      obtain ⟨g12, h⟩ := gd_some h
      obtain ⟨g13, h⟩ := gd_some h
      refine k9_ic_ne fX9_odds_18 rfl g12 g13 (fun c11 => ?_) (fun c11 => ?_)
      · replace h := ite_f (c11) h
        refine t_l fX9_odds_23 rfl rfl rfl rfl ?_
        obtain ⟨g15, h⟩ := gd_some h
        refine k9_if_lt fX9_odds_24 rfl g15 (fun c14 => ?_) (fun c14 => ?_)
        · replace h := ite_t (c14) h
          refine t_s fX9_odds_32 rfl rfl rfl ?_
          refine t_ret fX9_odds_33 rX9_odds ?_
          exact qf_i h
        · replace h := ite_f (c14) h
          refine t_l fX9_odds_27 rfl rfl rfl rfl ?_
          refine t_s fX9_odds_28 rfl rfl rfl ?_
          refine k9_ic_le fX9_odds_29 rfl g15 ⟨by decide, by decide⟩ (fun c16 => ?_) (fun c16 => ?_)
          · replace h := ite_t (c16) h
            refine t_l fX9_odds_34 rfl rfl rfl rfl ?_
            refine k9_gr fX9_odds_35 (hr0).1 kg_9_10 (s9_10r hr0) ?_
            refine k9_gr fX9_odds_38 (s9_10s hr0).1 kg_1_0 (s1_0r (s9_10s hr0)) ?_
            obtain ⟨V17, v18, e19, h⟩ := bd_some h
            refine kcX7_size fX9_odds_41 (s1_0s (s9_10s hr0)).1 rfl (q_X7_size (s1_0s (s9_10s hr0)) e19) (by decide) ?_
            refine t_l fX9_odds_44 rfl rfl rfl rfl ?_
            refine t_s fX9_odds_46 rfl rfl rfl ?_
            refine t_l fX9_odds_47 rfl rfl rfl rfl ?_
            refine t_s fX9_odds_49 rfl rfl rfl ?_
            refine t_l fX9_odds_50 rfl rfl rfl rfl ?_
            obtain ⟨V38, u39, e40, h⟩ := bd_some h
            refine tl_X9_odds_52 hr0  (fun e41 j7 j8 => ?_) e40
            refine t_s fX9_odds_109 rfl rfl rfl ?_
            refine t_l fX9_odds_110 rfl rfl rfl rfl ?_
            refine t_s fX9_odds_112 rfl rfl rfl ?_
            refine t_l fX9_odds_113 rfl rfl rfl rfl ?_
            refine t_s fX9_odds_115 rfl rfl rfl ?_
            refine t_l fX9_odds_116 rfl rfl rfl rfl ?_
            obtain ⟨V48, u49, e50, h⟩ := bd_some h
            refine tl_X9_odds_118 hr0  (fun e51 j4 j5 => ?_) e50
            refine t_l fX9_odds_144 rfl rfl rfl rfl ?_
            obtain ⟨g53, h⟩ := gd_some h
            refine k9_if_le fX9_odds_146 rfl g53 (fun c52 => ?_) (fun c52 => ?_)
            · replace h := ite_t (c52) h
              refine t_s fX9_odds_164 rfl rfl rfl ?_
              refine t_ret fX9_odds_165 rX9_odds ?_
              exact qf_i h
            · replace h := ite_f (c52) h
              refine t_l fX9_odds_149 rfl rfl rfl rfl ?_
              refine t_l fX9_odds_151 rfl rfl rfl rfl ?_
              refine k9_isub fX9_odds_153 ?_
              refine t_s fX9_odds_154 rfl rfl rfl ?_
              refine k9_imul fX9_odds_157 ?_
              refine t_l fX9_odds_158 rfl rfl rfl rfl ?_
              obtain ⟨g54, h⟩ := gd_some h
              obtain ⟨g55, h⟩ := gd_some h
              refine k9_idiv fX9_odds_160 g54 g53 g55 ?_
              refine k9_goto fX9_odds_161 rfl ?_
              refine t_ret fX9_odds_165 rX9_odds ?_
              exact qf_i h
          · replace h := ite_f (c16) h
            refine t_s fX9_odds_32 rfl rfl rfl ?_
            refine t_ret fX9_odds_33 rX9_odds ?_
            exact qf_i h
      · replace h := ite_t (Classical.not_not.mp c11) h
        refine t_s fX9_odds_21 rfl rfl rfl ?_
        refine t_ret fX9_odds_22 rX9_odds ?_
        exact qf_i h

theorem tj_X9_go_J27 {X : mX} {n z : Nat} {G : mG} {r0 : Nat} (hr0 : is9 G r0) {x1 : Int} {V V' : mV} {v : Int} (h : F_X9_go_J27 G r0 x1 V = some (V', v)) : T X (8) 127 27 [some (.ref r0), some (.int (iI x1))] [] n z G V (qi n z G V' v) := by
  unfold F_X9_go_J27 at h
  refine t_l fX9_go_27 rfl rfl rfl rfl ?_
  refine t_s fX9_go_28 rfl rfl rfl ?_
  obtain ⟨V3, v4, e5, h⟩ := bd_some h
  refine kcX9_refuse fX9_go_29 (hr0).1 rfl (q_X9_refuse (hr0) e5) (by decide) ?_
  refine t_ret fX9_go_32 rX9_go ?_
  exact qf_i h

theorem q_X9_go {X : mX} {n z : Nat} {G : mG} {r0 : Nat} (hr0 : is9 G r0) {x1 : Int} {V V' : mV} {v : Int} (h : F_X9_go G r0 x1 V = some (V', v)) : Rn X (8) 127 [.ref r0, .int (iI x1)] n z G V n z G V' (some (.int (iI v))) := by
  refine qi_toR (v := v) (L := [some (.ref r0), some (.int (iI x1))]) rfl ?_
  unfold F_X9_go at h
  refine t_l fX9_go_0 rfl rfl rfl rfl ?_
  refine t_s fX9_go_1 rfl rfl rfl ?_
  obtain ⟨g2, h⟩ := gd_some h
  refine k9_ic_lt fX9_go_2 rfl g2 ⟨by decide, by decide⟩ (fun c1 => ?_) (fun c1 => ?_)
  · replace h := ite_t (c1) h
    exact tj_X9_go_J27 hr0   h
  · replace h := ite_f (c1) h
    refine t_l fX9_go_5 rfl rfl rfl rfl ?_
    refine t_s fX9_go_6 rfl rfl rfl ?_
    refine k9_ic_gt fX9_go_9 rfl g2 ⟨by decide, by decide⟩ (fun c6 => ?_) (fun c6 => ?_)
    · replace h := ite_t (c6) h
      exact tj_X9_go_J27 hr0   h
    · replace h := ite_f (c6) h
      refine t_l fX9_go_12 rfl rfl rfl rfl ?_
      refine t_s fX9_go_13 rfl rfl rfl ?_
      refine t_l fX9_go_16 rfl rfl rfl rfl ?_
      refine k9_gr fX9_go_17 (hr0).1 kg_9_8 (s9_8r hr0) ?_
      refine k9_gi fX9_go_20 (s9_8s hr0).1 kg_4_0 ?_
      refine k9_isub fX9_go_23 ?_
      obtain ⟨g8, h⟩ := gd_some h
      refine k9_ic_le fX9_go_24 rfl g2 g8 (fun c7 => ?_) (fun c7 => ?_)
      · replace h := ite_t (c7) h
        refine t_l fX9_go_33 rfl rfl rfl rfl ?_
        refine k9_gr fX9_go_34 (hr0).1 kg_9_7 (s9_7r hr0) ?_
        refine t_l fX9_go_37 rfl rfl rfl rfl ?_
        refine k9_gr fX9_go_38 (hr0).1 kg_9_8 (s9_8r hr0) ?_
        obtain ⟨V9, v10, e11, h⟩ := bd_some h
        refine kcX5_remember fX9_go_41 (s9_7s hr0).1 rfl rfl (q_X5_remember (s9_7s hr0) (s9_8s hr0) e11) (by decide) ?_
        refine t_l fX9_go_44 rfl rfl rfl rfl ?_
        refine t_l fX9_go_45 rfl rfl rfl rfl ?_
        refine k9_gr fX9_go_46 (hr0).1 kg_9_8 (s9_8r hr0) ?_
        refine t_l fX9_go_49 rfl rfl rfl rfl ?_
        obtain ⟨V12, v13, e14, h⟩ := bd_some h
        refine kcX9_bring fX9_go_50 (hr0).1 rfl rfl (q_X9_bring (hr0) (s9_8s hr0) e14) (by decide) ?_
        refine t_l fX9_go_53 rfl rfl rfl rfl ?_
        refine k9_gr fX9_go_54 (hr0).1 kg_9_8 (s9_8r hr0) ?_
        refine k9_gi fX9_go_57 (s9_8s hr0).1 kg_4_0 ?_
        refine t_ret fX9_go_60 rX9_go ?_
        exact qf_i h
      · replace h := ite_f (c7) h
        exact tj_X9_go_J27 hr0   h

theorem q_X9_call {X : mX} {n z : Nat} {G : mG} {r0 : Nat} (hr0 : is9 G r0) {x1 : Int} {V V' : mV} {v : Int} (h : F_X9_call G r0 x1 V = some (V', v)) : Rn X (4) 128 [.ref r0, .int (iI x1)] n z G V n z G V' (some (.int (iI v))) := by
  refine qi_toR (v := v) (L := [some (.ref r0), some (.int (iI x1))]) rfl ?_
  unfold F_X9_call at h
  refine t_l fX9_call_0 rfl rfl rfl rfl ?_
  refine t_l fX9_call_1 rfl rfl rfl rfl ?_
  obtain ⟨V1, v2, e3, h⟩ := bd_some h
  refine kcX9_isHere fX9_call_2 (hr0).1 rfl (q_X9_isHere (hr0) e3) (by decide) ?_
  obtain ⟨g5, h⟩ := gd_some h
  refine k9_if_ne fX9_call_5 rfl g5 (fun c4 => ?_) (fun c4 => ?_)
  · replace h := ite_f (c4) h
    refine t_l fX9_call_14 rfl rfl rfl rfl ?_
    refine k9_gr fX9_call_15 (hr0).1 kg_9_7 (s9_7r hr0) ?_
    refine t_l fX9_call_18 rfl rfl rfl rfl ?_
    refine k9_gr fX9_call_19 (hr0).1 kg_9_8 (s9_8r hr0) ?_
    obtain ⟨V6, v7, e8, h⟩ := bd_some h
    refine kcX5_remember fX9_call_22 (s9_7s hr0).1 rfl rfl (q_X5_remember (s9_7s hr0) (s9_8s hr0) e8) (by decide) ?_
    refine t_l fX9_call_25 rfl rfl rfl rfl ?_
    refine k9_gr fX9_call_26 (hr0).1 kg_9_5 (s9_5r hr0) ?_
    refine t_l fX9_call_29 rfl rfl rfl rfl ?_
    refine k9_gr fX9_call_30 (hr0).1 kg_9_10 (s9_10r hr0) ?_
    refine t_l fX9_call_33 rfl rfl rfl rfl ?_
    refine k9_gr fX9_call_34 (hr0).1 kg_9_8 (s9_8r hr0) ?_
    refine t_l fX9_call_37 rfl rfl rfl rfl ?_
    obtain ⟨V9, v10, e11, h⟩ := bd_some h
    refine kcX2_sendAway fX9_call_38 (s9_5s hr0).1 rfl rfl rfl (q_X2_sendAway (s9_5s hr0) (s9_10s hr0) (s9_8s hr0) e11) (by decide) ?_
    refine t_l fX9_call_41 rfl rfl rfl rfl ?_
    refine k9_gr fX9_call_42 (hr0).1 kg_9_5 (s9_5r hr0) ?_
    refine k9_gr fX9_call_45 (s9_5s hr0).1 kg_2_1 (s2_1r (s9_5s hr0)) ?_
    obtain ⟨V12, v13, e14, h⟩ := bd_some h
    refine kcX7_size fX9_call_48 (s2_1s (s9_5s hr0)).1 rfl (q_X7_size (s2_1s (s9_5s hr0)) e14) (by decide) ?_
    refine t_ret fX9_call_51 rX9_call ?_
    exact qf_i h
  · replace h := ite_t (Classical.not_not.mp c4) h
    refine t_l fX9_call_8 rfl rfl rfl rfl ?_
    refine t_s fX9_call_9 rfl rfl rfl ?_
    obtain ⟨V15, v16, e17, h⟩ := bd_some h
    refine kcX9_refuse fX9_call_10 (hr0).1 rfl (q_X9_refuse (hr0) e17) (by decide) ?_
    refine t_ret fX9_call_13 rX9_call ?_
    exact qf_i h

theorem tj_X9_watch_J51 {X : mX} {n z : Nat} {G : mG} {r0 : Nat} (hr0 : is9 G r0) {x1 x2 : Int} {j3 : Option Value} {V V' : mV} {v : Int} (h : F_X9_watch_J51 G r0 x1 x2 V = some (V', v)) : T X (4) 129 51 [some (.ref r0), some (.int (iI x1)), some (.int (iI x2)), j3] [] n z G V (qi n z G V' v) := by
  unfold F_X9_watch_J51 at h
  refine t_l fX9_watch_51 rfl rfl rfl rfl ?_
  refine t_s fX9_watch_52 rfl rfl rfl ?_
  obtain ⟨V8, v9, e10, h⟩ := bd_some h
  refine kcX9_refuse fX9_watch_53 (hr0).1 rfl (q_X9_refuse (hr0) e10) (by decide) ?_
  refine t_s fX9_watch_56 rfl rfl rfl ?_
  refine t_s fX9_watch_57 rfl rfl rfl ?_
  refine t_ret fX9_watch_58 (rX9_watch _ (by decide)) ?_
  exact qf_i h

theorem tj_X9_watch_J31 {X : mX} {n z : Nat} {G : mG} {r0 : Nat} (hr0 : is9 G r0) {x1 x2 s0 : Int} {j3 : Option Value} {V V' : mV} {v : Int} (h : F_X9_watch_J31 G r0 x1 x2 s0 V = some (V', v)) : T X (4) 129 31 [some (.ref r0), some (.int (iI x1)), some (.int (iI x2)), j3] [.int (iI s0)] n z G V (qi n z G V' v) := by
  unfold F_X9_watch_J31 at h
  refine t_l fX9_watch_31 rfl rfl rfl rfl ?_
  refine t_l fX9_watch_32 rfl rfl rfl rfl ?_
  obtain ⟨g7, h⟩ := gd_some h
  refine k9_if_eq fX9_watch_33 rfl g7 (fun c6 => ?_) (fun c6 => ?_)
  · replace h := ite_t (c6) h
    exact tj_X9_watch_J51 hr0   h
  · replace h := ite_f (c6) h
    refine t_l fX9_watch_36 rfl rfl rfl rfl ?_
    refine k9_gr fX9_watch_37 (hr0).1 kg_9_8 (s9_8r hr0) ?_
    refine k9_gr fX9_watch_40 (s9_8s hr0).1 kg_4_2 (s4_2r (s9_8s hr0)) ?_
    refine t_l fX9_watch_43 rfl rfl rfl rfl ?_
    obtain ⟨V11, v12, e13, h⟩ := bd_some h
    refine kcX7_get fX9_watch_44 (s4_2s (s9_8s hr0)).1 rfl (q_X7_get (s4_2s (s9_8s hr0)) e13) (by decide) ?_
    refine t_l fX9_watch_47 rfl rfl rfl rfl ?_
    obtain ⟨g15, h⟩ := gd_some h
    obtain ⟨g16, h⟩ := gd_some h
    refine k9_ic_ne fX9_watch_48 rfl g15 g16 (fun c14 => ?_) (fun c14 => ?_)
    · replace h := ite_f (c14) h
      refine t_l fX9_watch_59 rfl rfl rfl rfl ?_
      refine k9_gr fX9_watch_60 (hr0).1 kg_9_7 (s9_7r hr0) ?_
      refine t_l fX9_watch_63 rfl rfl rfl rfl ?_
      refine k9_gr fX9_watch_64 (hr0).1 kg_9_8 (s9_8r hr0) ?_
      obtain ⟨V17, v18, e19, h⟩ := bd_some h
      refine kcX5_remember fX9_watch_67 (s9_7s hr0).1 rfl rfl (q_X5_remember (s9_7s hr0) (s9_8s hr0) e19) (by decide) ?_
      refine t_l fX9_watch_70 rfl rfl rfl rfl ?_
      refine k9_gr fX9_watch_71 (hr0).1 kg_9_8 (s9_8r hr0) ?_
      refine k9_gr fX9_watch_74 (s9_8s hr0).1 kg_4_2 (s4_2r (s9_8s hr0)) ?_
      refine t_l fX9_watch_77 rfl rfl rfl rfl ?_
      refine t_l fX9_watch_78 rfl rfl rfl rfl ?_
      obtain ⟨V20, v21, e22, h⟩ := bd_some h
      refine kcX7_put fX9_watch_79 (s4_2s (s9_8s hr0)).1 rfl (q_X7_put (s4_2s (s9_8s hr0)) e22) (by decide) ?_
      refine t_s fX9_watch_82 rfl rfl rfl ?_
      refine t_ret fX9_watch_83 (rX9_watch _ (by decide)) ?_
      exact qf_i h
    · replace h := ite_t (Classical.not_not.mp c14) h
      exact tj_X9_watch_J51 hr0   h

theorem tj_X9_watch_J30 {X : mX} {n z : Nat} {G : mG} {r0 : Nat} (hr0 : is9 G r0) {x1 x2 : Int} {j3 : Option Value} {V V' : mV} {v : Int} (h : F_X9_watch_J30 G r0 x1 x2 V = some (V', v)) : T X (4) 129 30 [some (.ref r0), some (.int (iI x1)), some (.int (iI x2)), j3] [] n z G V (qi n z G V' v) := by
  unfold F_X9_watch_J30 at h
  refine t_s fX9_watch_30 rfl rfl rfl ?_
  exact tj_X9_watch_J31 hr0   h

theorem tj_X9_watch_J21 {X : mX} {n z : Nat} {G : mG} {r0 : Nat} (hr0 : is9 G r0) {x1 x2 : Int} {j3 : Option Value} {V V' : mV} {v : Int} (h : F_X9_watch_J21 G r0 x1 x2 V = some (V', v)) : T X (4) 129 21 [some (.ref r0), some (.int (iI x1)), some (.int (iI x2)), j3] [] n z G V (qi n z G V' v) := by
  unfold F_X9_watch_J21 at h
  refine t_l fX9_watch_21 rfl rfl rfl rfl ?_
  refine t_l fX9_watch_22 rfl rfl rfl rfl ?_
  obtain ⟨g26, h⟩ := gd_some h
  obtain ⟨g27, h⟩ := gd_some h
  refine k9_ic_eq fX9_watch_23 rfl g26 g27 (fun c25 => ?_) (fun c25 => ?_)
  · replace h := ite_t (c25) h
    exact tj_X9_watch_J30 hr0   h
  · replace h := ite_f (c25) h
    refine t_s fX9_watch_26 rfl rfl rfl ?_
    refine k9_goto fX9_watch_27 rfl ?_
    exact tj_X9_watch_J31 hr0   h

theorem q_X9_watch {X : mX} {n z : Nat} {G : mG} {r0 : Nat} (hr0 : is9 G r0) {x1 x2 : Int} {V V' : mV} {v : Int} (h : F_X9_watch G r0 x1 x2 V = some (V', v)) : Rn X (4) 129 [.ref r0, .int (iI x1), .int (iI x2)] n z G V n z G V' (some (.int (iI v))) := by
  refine qi_toR (v := v) (L := [some (.ref r0), some (.int (iI x1)), some (.int (iI x2)), none]) rfl ?_
  unfold F_X9_watch at h
  refine t_l fX9_watch_0 rfl rfl rfl rfl ?_
  refine t_l fX9_watch_1 rfl rfl rfl rfl ?_
  obtain ⟨V1, v2, e3, h⟩ := bd_some h
  refine kcX9_isPerson fX9_watch_2 (hr0).1 rfl (q_X9_isPerson (hr0) e3) (by decide) ?_
  obtain ⟨g5, h⟩ := gd_some h
  refine k9_if_eq fX9_watch_5 rfl g5 (fun c4 => ?_) (fun c4 => ?_)
  · replace h := ite_t (c4) h
    exact tj_X9_watch_J30 hr0   h
  · replace h := ite_f (c4) h
    refine t_l fX9_watch_8 rfl rfl rfl rfl ?_
    refine t_s fX9_watch_9 rfl rfl rfl ?_
    obtain ⟨g24, h⟩ := gd_some h
    refine k9_ic_eq fX9_watch_10 rfl g24 ⟨by decide, by decide⟩ (fun c23 => ?_) (fun c23 => ?_)
    · replace h := ite_t (c23) h
      exact tj_X9_watch_J21 hr0   h
    · replace h := ite_f (c23) h
      refine t_l fX9_watch_13 rfl rfl rfl rfl ?_
      refine t_l fX9_watch_14 rfl rfl rfl rfl ?_
      obtain ⟨V28, v29, e30, h⟩ := bd_some h
      refine kcX9_isPerson fX9_watch_15 (hr0).1 rfl (q_X9_isPerson (hr0) e30) (by decide) ?_
      obtain ⟨g32, h⟩ := gd_some h
      refine k9_if_eq fX9_watch_18 rfl g32 (fun c31 => ?_) (fun c31 => ?_)
      · replace h := ite_t (c31) h
        exact tj_X9_watch_J30 hr0   h
      · replace h := ite_f (c31) h
        exact tj_X9_watch_J21 hr0   h

theorem tj_X9_teach_J43 {X : mX} {n z : Nat} {G : mG} {r0 : Nat} (hr0 : is9 G r0) {x1 x2 x3 : Int} {j4 j5 : Option Value} {V V' : mV} {v : Int} (h : F_X9_teach_J43 G r0 x1 x2 x3 V = some (V', v)) : T X (4) 130 43 [some (.ref r0), some (.int (iI x1)), some (.int (iI x2)), some (.int (iI x3)), j4, j5] [] n z G V (qi n z G V' v) := by
  unfold F_X9_teach_J43 at h
  refine t_l fX9_teach_43 rfl rfl rfl rfl ?_
  refine t_s fX9_teach_44 rfl rfl rfl ?_
  obtain ⟨V8, v9, e10, h⟩ := bd_some h
  refine kcX9_refuse fX9_teach_45 (hr0).1 rfl (q_X9_refuse (hr0) e10) (by decide) ?_
  refine t_ret fX9_teach_48 rX9_teach ?_
  exact qf_i h

theorem tj_X9_teach_J26 {X : mX} {n z : Nat} {G : mG} {r0 : Nat} (hr0 : is9 G r0) {x1 x2 x3 s0 : Int} {j4 j5 : Option Value} {V V' : mV} {v : Int} (h : F_X9_teach_J26 G r0 x1 x2 x3 s0 V = some (V', v)) : T X (4) 130 26 [some (.ref r0), some (.int (iI x1)), some (.int (iI x2)), some (.int (iI x3)), j4, j5] [.int (iI s0)] n z G V (qi n z G V' v) := by
  unfold F_X9_teach_J26 at h
  refine t_l fX9_teach_26 rfl rfl rfl rfl ?_
  refine t_l fX9_teach_28 rfl rfl rfl rfl ?_
  obtain ⟨g7, h⟩ := gd_some h
  refine k9_if_eq fX9_teach_30 rfl g7 (fun c6 => ?_) (fun c6 => ?_)
  · replace h := ite_t (c6) h
    exact tj_X9_teach_J43 hr0   h
  · replace h := ite_f (c6) h
    refine t_l fX9_teach_33 rfl rfl rfl rfl ?_
    obtain ⟨g12, h⟩ := gd_some h
    refine k9_if_lt fX9_teach_34 rfl g12 (fun c11 => ?_) (fun c11 => ?_)
    · replace h := ite_t (c11) h
      exact tj_X9_teach_J43 hr0   h
    · replace h := ite_f (c11) h
      refine t_l fX9_teach_37 rfl rfl rfl rfl ?_
      refine t_s fX9_teach_38 rfl rfl rfl ?_
      refine k9_ic_le fX9_teach_40 rfl g12 ⟨by decide, by decide⟩ (fun c13 => ?_) (fun c13 => ?_)
      · replace h := ite_t (c13) h
        refine t_l fX9_teach_49 rfl rfl rfl rfl ?_
        refine k9_gr fX9_teach_50 (hr0).1 kg_9_8 (s9_8r hr0) ?_
        refine t_l fX9_teach_53 rfl rfl rfl rfl ?_
        refine t_l fX9_teach_54 rfl rfl rfl rfl ?_
        obtain ⟨V14, v15, e16, h⟩ := bd_some h
        refine kcX4_pointsOf fX9_teach_55 (s9_8s hr0).1 rfl (q_X4_pointsOf (s9_8s hr0) e16) (by decide) ?_
        refine t_l fX9_teach_58 rfl rfl rfl rfl ?_
        refine t_l fX9_teach_60 rfl rfl rfl rfl ?_
        refine k9_gr fX9_teach_61 (hr0).1 kg_9_7 (s9_7r hr0) ?_
        refine t_l fX9_teach_64 rfl rfl rfl rfl ?_
        refine k9_gr fX9_teach_65 (hr0).1 kg_9_8 (s9_8r hr0) ?_
        obtain ⟨V17, v18, e19, h⟩ := bd_some h
        refine kcX5_remember fX9_teach_68 (s9_7s hr0).1 rfl rfl (q_X5_remember (s9_7s hr0) (s9_8s hr0) e19) (by decide) ?_
        refine t_l fX9_teach_71 rfl rfl rfl rfl ?_
        refine k9_gr fX9_teach_72 (hr0).1 kg_9_8 (s9_8r hr0) ?_
        refine t_l fX9_teach_75 rfl rfl rfl rfl ?_
        refine t_l fX9_teach_76 rfl rfl rfl rfl ?_
        refine t_l fX9_teach_77 rfl rfl rfl rfl ?_
        obtain ⟨V20, v21, e22, h⟩ := bd_some h
        refine kcX4_setPoints fX9_teach_78 (s9_8s hr0).1 rfl (q_X4_setPoints (s9_8s hr0) e22) (by decide) ?_
        refine t_l fX9_teach_81 rfl rfl rfl rfl ?_
        refine t_ret fX9_teach_83 rX9_teach ?_
        exact qf_i h
      · replace h := ite_f (c13) h
        exact tj_X9_teach_J43 hr0   h

theorem tj_X9_teach_J25 {X : mX} {n z : Nat} {G : mG} {r0 : Nat} (hr0 : is9 G r0) {x1 x2 x3 : Int} {j4 j5 : Option Value} {V V' : mV} {v : Int} (h : F_X9_teach_J25 G r0 x1 x2 x3 V = some (V', v)) : T X (4) 130 25 [some (.ref r0), some (.int (iI x1)), some (.int (iI x2)), some (.int (iI x3)), j4, j5] [] n z G V (qi n z G V' v) := by
  unfold F_X9_teach_J25 at h
  refine t_s fX9_teach_25 rfl rfl rfl ?_
  exact tj_X9_teach_J26 hr0   h

theorem q_X9_teach {X : mX} {n z : Nat} {G : mG} {r0 : Nat} (hr0 : is9 G r0) {x1 x2 x3 : Int} {V V' : mV} {v : Int} (h : F_X9_teach G r0 x1 x2 x3 V = some (V', v)) : Rn X (4) 130 [.ref r0, .int (iI x1), .int (iI x2), .int (iI x3)] n z G V n z G V' (some (.int (iI v))) := by
  refine qi_toR (v := v) (L := [some (.ref r0), some (.int (iI x1)), some (.int (iI x2)), some (.int (iI x3)), none, none]) rfl ?_
  unfold F_X9_teach at h
  refine t_l fX9_teach_0 rfl rfl rfl rfl ?_
  refine t_l fX9_teach_1 rfl rfl rfl rfl ?_
  obtain ⟨V1, v2, e3, h⟩ := bd_some h
  refine kcX9_isPerson fX9_teach_2 (hr0).1 rfl (q_X9_isPerson (hr0) e3) (by decide) ?_
  obtain ⟨g5, h⟩ := gd_some h
  refine k9_if_eq fX9_teach_5 rfl g5 (fun c4 => ?_) (fun c4 => ?_)
  · replace h := ite_t (c4) h
    exact tj_X9_teach_J25 hr0   h
  · replace h := ite_f (c4) h
    refine t_l fX9_teach_8 rfl rfl rfl rfl ?_
    refine t_l fX9_teach_9 rfl rfl rfl rfl ?_
    obtain ⟨V23, v24, e25, h⟩ := bd_some h
    refine kcX9_isPerson fX9_teach_10 (hr0).1 rfl (q_X9_isPerson (hr0) e25) (by decide) ?_
    obtain ⟨g27, h⟩ := gd_some h
    refine k9_if_eq fX9_teach_13 rfl g27 (fun c26 => ?_) (fun c26 => ?_)
    · replace h := ite_t (c26) h
      exact tj_X9_teach_J25 hr0   h
    · replace h := ite_f (c26) h
      refine t_l fX9_teach_16 rfl rfl rfl rfl ?_
      refine t_l fX9_teach_17 rfl rfl rfl rfl ?_
      obtain ⟨g29, h⟩ := gd_some h
      obtain ⟨g30, h⟩ := gd_some h
      refine k9_ic_eq fX9_teach_18 rfl g29 g30 (fun c28 => ?_) (fun c28 => ?_)
      · replace h := ite_t (c28) h
        exact tj_X9_teach_J25 hr0   h
      · replace h := ite_f (c28) h
        refine t_s fX9_teach_21 rfl rfl rfl ?_
        refine k9_goto fX9_teach_22 rfl ?_
        exact tj_X9_teach_J26 hr0   h

theorem q_X9_hoursTillNoon {X : mX} {n z : Nat} {G : mG} {r0 : Nat} (hr0 : is9 G r0) {V V' : mV} {v : Int} (h : F_X9_hoursTillNoon G r0 V = some (V', v)) : Rn X (1) 150 [.ref r0] n z G V n z G V' (some (.int (iI v))) := by
  refine qi_toR (v := v) (L := [some (.ref r0)]) rfl ?_
  unfold F_X9_hoursTillNoon at h
  refine t_s fX9_hoursTillNoon_0 rfl rfl rfl ?_
  refine t_l fX9_hoursTillNoon_2 rfl rfl rfl rfl ?_
  refine k9_gr fX9_hoursTillNoon_3 (hr0).1 kg_9_8 (s9_8r hr0) ?_
  refine k9_gi fX9_hoursTillNoon_6 (s9_8s hr0).1 kg_4_0 ?_
  refine k9_isub fX9_hoursTillNoon_9 ?_
  refine t_s fX9_hoursTillNoon_10 rfl rfl rfl ?_
  obtain ⟨g1, h⟩ := gd_some h
  refine kcJ9_floorMod_7cf53 fX9_hoursTillNoon_12 rfl (eJ9_floorMod_7cf53 g1 ⟨by decide, by decide⟩) (by decide) ?_
  refine t_s fX9_hoursTillNoon_15 rfl rfl rfl ?_
  refine k9_iadd fX9_hoursTillNoon_16 ?_
  refine t_ret fX9_hoursTillNoon_17 rX9_hoursTillNoon ?_
  exact qf_i h

theorem q_X9_ringBell {X : mX} {n z : Nat} {G : mG} {r0 : Nat} (hr0 : is9 G r0) {V V' : mV} {v : Int} (h : F_X9_ringBell G r0 V = some (V', v)) : Rn X (3) 151 [.ref r0] n z G V n z G V' none := by
  refine qv_toR (v := v) (L := [some (.ref r0), none, none]) rfl ?_
  unfold F_X9_ringBell at h
  refine t_l fX9_ringBell_0 rfl rfl rfl rfl ?_
  refine k9_gr fX9_ringBell_1 (hr0).1 kg_9_10 (s9_10r hr0) ?_
  refine k9_gr fX9_ringBell_4 (s9_10s hr0).1 kg_1_0 (s1_0r (s9_10s hr0)) ?_
  obtain ⟨V1, v2, e3, h⟩ := bd_some h
  refine kcX7_size fX9_ringBell_7 (s1_0s (s9_10s hr0)).1 rfl (q_X7_size (s1_0s (s9_10s hr0)) e3) (by decide) ?_
  refine t_l fX9_ringBell_10 rfl rfl rfl rfl ?_
  refine t_l fX9_ringBell_11 rfl rfl rfl rfl ?_
  obtain ⟨g5, h⟩ := gd_some h
  refine k9_if_ne fX9_ringBell_12 rfl g5 (fun c4 => ?_) (fun c4 => ?_)
  · replace h := ite_f (c4) h
    refine t_l fX9_ringBell_16 rfl rfl rfl rfl ?_
    refine t_s fX9_ringBell_17 rfl rfl rfl ?_
    refine t_l fX9_ringBell_20 rfl rfl rfl rfl ?_
    refine k9_gj fX9_ringBell_21 (hr0).1 kg_9_13 ?_
    refine k9_lmul fX9_ringBell_24 ?_
    refine t_s fX9_ringBell_25 rfl rfl rfl ?_
    refine k9_ladd fX9_ringBell_28 ?_
    refine t_s fX9_ringBell_29 rfl rfl rfl ?_
    refine k9_land fX9_ringBell_32 ?_
    refine k9_pj fX9_ringBell_33 (hr0).1 kp_9_13 ?_
    replace h := lt_some h
    refine t_l fX9_ringBell_36 rfl rfl rfl rfl ?_
    refine k9_gj fX9_ringBell_37 (hr0).1 kg_9_13 ?_
    refine t_s fX9_ringBell_40 rfl rfl rfl ?_
    obtain ⟨g7, h⟩ := gd_some h
    refine k9_ldiv fX9_ringBell_43 g7 ⟨by decide, by decide⟩ (by decide) ?_
    refine t_l fX9_ringBell_44 rfl rfl rfl rfl ?_
    refine k9_i2l fX9_ringBell_45 g5 ?_
    obtain ⟨g8, h⟩ := gd_some h
    obtain ⟨g9, h⟩ := gd_some h
    obtain ⟨g10, h⟩ := gd_some h
    refine k9_lrem fX9_ringBell_46 g8 g9 g10 ?_
    refine k9_l2i fX9_ringBell_47 ?_
    replace h := lt_some h
    refine t_l fX9_ringBell_48 rfl rfl rfl rfl ?_
    refine t_l fX9_ringBell_49 rfl rfl rfl rfl ?_
    refine t_l fX9_ringBell_50 rfl rfl rfl rfl ?_
    obtain ⟨V12, v13, e14, h⟩ := bd_some h
    refine kcX9_isHere fX9_ringBell_51 (hr0).1 rfl (q_X9_isHere (hr0) e14) (by decide) ?_
    obtain ⟨g16, h⟩ := gd_some h
    refine k9_if_eq fX9_ringBell_54 rfl g16 (fun c15 => ?_) (fun c15 => ?_)
    · replace h := ite_t (c15) h
      refine t_ret fX9_ringBell_73 rX9_ringBell ?_
      exact qf_v h
    · replace h := ite_f (c15) h
      refine t_l fX9_ringBell_57 rfl rfl rfl rfl ?_
      refine k9_gr fX9_ringBell_58 (hr0).1 kg_9_5 (s9_5r hr0) ?_
      refine t_l fX9_ringBell_61 rfl rfl rfl rfl ?_
      refine k9_gr fX9_ringBell_62 (hr0).1 kg_9_10 (s9_10r hr0) ?_
      refine t_l fX9_ringBell_65 rfl rfl rfl rfl ?_
      refine k9_gr fX9_ringBell_66 (hr0).1 kg_9_8 (s9_8r hr0) ?_
      refine t_l fX9_ringBell_69 rfl rfl rfl rfl ?_
      obtain ⟨V17, v18, e19, h⟩ := bd_some h
      refine kcX2_sendAway fX9_ringBell_70 (s9_5s hr0).1 rfl rfl rfl (q_X2_sendAway (s9_5s hr0) (s9_10s hr0) (s9_8s hr0) e19) (by decide) ?_
      refine t_ret fX9_ringBell_73 rX9_ringBell ?_
      exact qf_v h
  · replace h := ite_t (Classical.not_not.mp c4) h
    refine t_ret fX9_ringBell_15 rX9_ringBell ?_
    exact qf_v h

theorem tj_X9_bells_J11 {X : mX} {n z : Nat} {G : mG} {r0 : Nat} (hr0 : is9 G r0) {x1 : Int} {j2 j3 : Option Value} {V V' : mV} {v : Int} (h : F_X9_bells_J11 G r0 x1 V = some (V', v)) : T X (8) 131 11 [some (.ref r0), some (.int (iI x1)), j2, j3] [] n z G V (qi n z G V' v) := by
  unfold F_X9_bells_J11 at h
  refine t_l fX9_bells_11 rfl rfl rfl rfl ?_
  refine t_s fX9_bells_12 rfl rfl rfl ?_
  obtain ⟨V3, v4, e5, h⟩ := bd_some h
  refine kcX9_refuse fX9_bells_13 (hr0).1 rfl (q_X9_refuse (hr0) e5) (by decide) ?_
  refine t_ret fX9_bells_16 rX9_bells ?_
  exact qf_i h

theorem tb_X9_bells_69 {X : mX} {n z : Nat} {G : mG} {r0 : Nat} (hr0 : is9 G r0) {x1 x3 : Int} {j2 : Option Value} {V V' : mV} {q : Nat × Int} {Q : Nat → Nat → mG → mV → Option Value → Prop} (h0 : q.1 = 0 → ∀ j2 : Option Value, T X (8) 131 69 [some (.ref r0), some (.int (iI x1)), j2, some (.int (iI q.2))] [] n z G V' Q) (h1 : q.1 = 1 → ∀ j2 : Option Value, T X (8) 131 106 [some (.ref r0), some (.int (iI x1)), j2, some (.int (iI q.2))] [] n z G V' Q) (h : B_X9_bells_69 G r0 x1 x3 V = some (V', q)) : T X (8) 131 69 [some (.ref r0), some (.int (iI x1)), j2, some (.int (iI x3))] [] n z G V Q := by
  unfold B_X9_bells_69 at h
  refine t_l fX9_bells_69 rfl rfl rfl rfl ?_
  refine t_l fX9_bells_70 rfl rfl rfl rfl ?_
  obtain ⟨g17, h⟩ := gd_some h
  obtain ⟨g18, h⟩ := gd_some h
  refine k9_ic_ge fX9_bells_71 rfl g17 g18 (fun c16 => ?_) (fun c16 => ?_)
  · replace h := ite_t (c16) h
    cases h
    exact h1 rfl _
  · replace h := ite_f (c16) h
    refine t_l fX9_bells_74 rfl rfl rfl rfl ?_
    refine t_l fX9_bells_75 rfl rfl rfl rfl ?_
    refine k9_gr fX9_bells_76 (hr0).1 kg_9_8 (s9_8r hr0) ?_
    refine t_l fX9_bells_79 rfl rfl rfl rfl ?_
    obtain ⟨V19, v20, e21, h⟩ := bd_some h
    refine kcX9_hoursTillNoon fX9_bells_80 (hr0).1 rfl (q_X9_hoursTillNoon (hr0) e21) (by decide) ?_
    obtain ⟨V22, v23, e24, h⟩ := bd_some h
    refine kcX9_bring fX9_bells_83 (hr0).1 rfl rfl (q_X9_bring (hr0) (s9_8s hr0) e24) (by decide) ?_
    refine t_l fX9_bells_86 rfl rfl rfl rfl ?_
    obtain ⟨V25, v26, e27, h⟩ := bd_some h
    refine kcX9_ringBell fX9_bells_87 (hr0).1 rfl (q_X9_ringBell (hr0) e27) (by decide) ?_
    refine t_l fX9_bells_90 rfl rfl rfl rfl ?_
    refine t_l fX9_bells_91 rfl rfl rfl rfl ?_
    refine k9_gr fX9_bells_92 (hr0).1 kg_9_8 (s9_8r hr0) ?_
    refine t_s fX9_bells_95 rfl rfl rfl ?_
    obtain ⟨V28, v29, e30, h⟩ := bd_some h
    refine kcX9_bring fX9_bells_97 (hr0).1 rfl rfl (q_X9_bring (hr0) (s9_8s hr0) e30) (by decide) ?_
    replace h := lt_some h
    refine k9_iinc fX9_bells_100 rfl (Nat.le_of_ble_eq_true rfl) rfl ?_
    refine k9_goto fX9_bells_103 rfl ?_
    cases h
    exact h0 rfl _

theorem tl_X9_bells_69 {X : mX} {n z : Nat} {G : mG} {r0 : Nat} (hr0 : is9 G r0) {x1 x3 : Int} {j2 : Option Value} {V V' : mV} {fu : Nat} {q : Nat × Int} {Q : Nat → Nat → mG → mV → Option Value → Prop} (k1 : q.1 = 1 → ∀ j2 : Option Value, T X (8) 131 106 [some (.ref r0), some (.int (iI x1)), j2, some (.int (iI q.2))] [] n z G V' Q) (h : lp (fun (s : Int) V => B_X9_bells_69 G r0 x1 s V) fu x3 V = some (V', q)) : T X (8) 131 69 [some (.ref r0), some (.int (iI x1)), j2, some (.int (iI x3))] [] n z G V Q :=
  lp_go (P0 := fun s V => ∀ j2 : Option Value, T X (8) 131 69 [some (.ref r0), some (.int (iI x1)), j2, some (.int (iI s))] [] n z G V Q) (PE := fun t s V => (t = 1 → ∀ j2 : Option Value, T X (8) 131 106 [some (.ref r0), some (.int (iI x1)), j2, some (.int (iI s))] [] n z G V Q)) (fun s V V' q hb h0 h1 => fun _ => tb_X9_bells_69 hr0  h0 (fun e => (h1 (by omega)) e) hb) fu x3 V V' q h k1 _

theorem q_X9_bells {X : mX} {n z : Nat} {G : mG} {r0 : Nat} (hr0 : is9 G r0) {x1 : Int} {V V' : mV} {v : Int} (h : F_X9_bells G r0 x1 V = some (V', v)) : Rn X (8) 131 [.ref r0, .int (iI x1)] n z G V n z G V' (some (.int (iI v))) := by
  refine qi_toR (v := v) (L := [some (.ref r0), some (.int (iI x1)), none, none]) rfl ?_
  unfold F_X9_bells at h
  refine t_l fX9_bells_0 rfl rfl rfl rfl ?_
  refine t_s fX9_bells_1 rfl rfl rfl ?_
  obtain ⟨g2, h⟩ := gd_some h
  refine k9_ic_lt fX9_bells_2 rfl g2 ⟨by decide, by decide⟩ (fun c1 => ?_) (fun c1 => ?_)
  · replace h := ite_t (c1) h
    exact tj_X9_bells_J11 hr0   h
  · replace h := ite_f (c1) h
    refine t_l fX9_bells_5 rfl rfl rfl rfl ?_
    refine t_s fX9_bells_6 rfl rfl rfl ?_
    refine k9_ic_le fX9_bells_8 rfl g2 ⟨by decide, by decide⟩ (fun c6 => ?_) (fun c6 => ?_)
    · replace h := ite_t (c6) h
      refine t_l fX9_bells_17 rfl rfl rfl rfl ?_
      refine k9_gr fX9_bells_18 (hr0).1 kg_9_8 (s9_8r hr0) ?_
      refine k9_gi fX9_bells_21 (s9_8s hr0).1 kg_4_0 ?_
      refine t_l fX9_bells_24 rfl rfl rfl rfl ?_
      obtain ⟨V7, v8, e9, h⟩ := bd_some h
      refine kcX9_hoursTillNoon fX9_bells_25 (hr0).1 rfl (q_X9_hoursTillNoon (hr0) e9) (by decide) ?_
      refine k9_iadd fX9_bells_28 ?_
      refine t_l fX9_bells_29 rfl rfl rfl rfl ?_
      refine t_s fX9_bells_30 rfl rfl rfl ?_
      refine k9_isub fX9_bells_31 ?_
      refine t_s fX9_bells_32 rfl rfl rfl ?_
      refine k9_imul fX9_bells_34 ?_
      refine k9_iadd fX9_bells_35 ?_
      replace h := lt_some h
      refine t_l fX9_bells_36 rfl rfl rfl rfl ?_
      refine t_l fX9_bells_37 rfl rfl rfl rfl ?_
      refine t_s fX9_bells_38 rfl rfl rfl ?_
      refine k9_iadd fX9_bells_40 ?_
      refine t_s fX9_bells_41 rfl rfl rfl ?_
      refine k9_isub fX9_bells_43 ?_
      refine t_s fX9_bells_44 rfl rfl rfl ?_
      obtain ⟨g12, h⟩ := gd_some h
      refine k9_ic_le fX9_bells_47 rfl g12 ⟨by decide, by decide⟩ (fun c11 => ?_) (fun c11 => ?_)
      · replace h := ite_t (c11) h
        refine t_l fX9_bells_56 rfl rfl rfl rfl ?_
        refine k9_gr fX9_bells_57 (hr0).1 kg_9_7 (s9_7r hr0) ?_
        refine t_l fX9_bells_60 rfl rfl rfl rfl ?_
        refine k9_gr fX9_bells_61 (hr0).1 kg_9_8 (s9_8r hr0) ?_
        obtain ⟨V13, v14, e15, h⟩ := bd_some h
        refine kcX5_remember fX9_bells_64 (s9_7s hr0).1 rfl rfl (q_X5_remember (s9_7s hr0) (s9_8s hr0) e15) (by decide) ?_
        refine t_s fX9_bells_67 rfl rfl rfl ?_
        refine t_l fX9_bells_68 rfl rfl rfl rfl ?_
        obtain ⟨V32, u33, e34, h⟩ := bd_some h
        refine tl_X9_bells_69 hr0  (fun e35 j2 => ?_) e34
        refine t_l fX9_bells_106 rfl rfl rfl rfl ?_
        refine k9_gr fX9_bells_107 (hr0).1 kg_9_8 (s9_8r hr0) ?_
        refine k9_gi fX9_bells_110 (s9_8s hr0).1 kg_4_0 ?_
        refine t_ret fX9_bells_113 rX9_bells ?_
        exact qf_i h
      · replace h := ite_f (c11) h
        refine t_l fX9_bells_50 rfl rfl rfl rfl ?_
        refine t_s fX9_bells_51 rfl rfl rfl ?_
        obtain ⟨V36, v37, e38, h⟩ := bd_some h
        refine kcX9_refuse fX9_bells_52 (hr0).1 rfl (q_X9_refuse (hr0) e38) (by decide) ?_
        refine t_ret fX9_bells_55 rX9_bells ?_
        exact qf_i h
    · replace h := ite_f (c6) h
      exact tj_X9_bells_J11 hr0   h

theorem q_X9_undo {X : mX} {n z : Nat} {G : mG} {r0 : Nat} (hr0 : is9 G r0) {V V' : mV} {v : Int} (h : F_X9_undo G r0 V = some (V', v)) : Rn X (4) 132 [.ref r0] n z G V n z G V' (some (.int (iI v))) := by
  refine qi_toR (v := v) (L := [some (.ref r0)]) rfl ?_
  unfold F_X9_undo at h
  refine t_l fX9_undo_0 rfl rfl rfl rfl ?_
  refine k9_gr fX9_undo_1 (hr0).1 kg_9_7 (s9_7r hr0) ?_
  refine t_l fX9_undo_4 rfl rfl rfl rfl ?_
  refine k9_gr fX9_undo_5 (hr0).1 kg_9_8 (s9_8r hr0) ?_
  obtain ⟨V1, v2, e3, h⟩ := bd_some h
  refine kcX5_recall fX9_undo_8 (s9_7s hr0).1 rfl rfl (q_X5_recall (s9_7s hr0) (s9_8s hr0) e3) (by decide) ?_
  obtain ⟨g5, h⟩ := gd_some h
  refine k9_if_eq fX9_undo_11 rfl g5 (fun c4 => ?_) (fun c4 => ?_)
  · replace h := ite_t (c4) h
    refine t_l fX9_undo_16 rfl rfl rfl rfl ?_
    refine t_s fX9_undo_17 rfl rfl rfl ?_
    obtain ⟨V6, v7, e8, h⟩ := bd_some h
    refine kcX9_refuse fX9_undo_18 (hr0).1 rfl (q_X9_refuse (hr0) e8) (by decide) ?_
    refine t_s fX9_undo_21 rfl rfl rfl ?_
    refine t_s fX9_undo_22 rfl rfl rfl ?_
    refine t_ret fX9_undo_23 (rX9_undo _ (by decide)) ?_
    exact qf_i h
  · replace h := ite_f (c4) h
    refine t_s fX9_undo_14 rfl rfl rfl ?_
    refine t_ret fX9_undo_15 (rX9_undo _ (by decide)) ?_
    exact qf_i h

theorem q_X9_seed {X : mX} {n z : Nat} {G : mG} {r0 : Nat} (hr0 : is9 G r0) {x1 : Int} {V V' : mV} {v : Int} (h : F_X9_seed G r0 x1 V = some (V', v)) : Rn X (2) 133 [.ref r0, .int (iI x1)] n z G V n z G V' (some (.int (iI v))) := by
  refine qi_toR (v := v) (L := [some (.ref r0), some (.int (iI x1))]) rfl ?_
  unfold F_X9_seed at h
  refine t_l fX9_seed_0 rfl rfl rfl rfl ?_
  obtain ⟨g2, h⟩ := gd_some h
  refine k9_if_ge fX9_seed_1 rfl g2 (fun c1 => ?_) (fun c1 => ?_)
  · replace h := ite_t (c1) h
    refine t_l fX9_seed_12 rfl rfl rfl rfl ?_
    refine t_l fX9_seed_13 rfl rfl rfl rfl ?_
    refine k9_i2l fX9_seed_14 g2 ?_
    refine k9_pj fX9_seed_15 (hr0).1 kp_9_13 ?_
    replace h := lt_some h
    refine t_s fX9_seed_18 rfl rfl rfl ?_
    refine t_ret fX9_seed_19 (rX9_seed _ (by decide)) ?_
    exact qf_i h
  · replace h := ite_f (c1) h
    refine t_l fX9_seed_4 rfl rfl rfl rfl ?_
    refine t_s fX9_seed_5 rfl rfl rfl ?_
    obtain ⟨V4, v5, e6, h⟩ := bd_some h
    refine kcX9_refuse fX9_seed_6 (hr0).1 rfl (q_X9_refuse (hr0) e6) (by decide) ?_
    refine t_s fX9_seed_9 rfl rfl rfl ?_
    refine t_s fX9_seed_10 rfl rfl rfl ?_
    refine t_ret fX9_seed_11 (rX9_seed _ (by decide)) ?_
    exact qf_i h

theorem tb_X9_areSlips_28 {X : mX} {n z : Nat} {G : mG} {r0 : Nat} (hr0 : is9 G r0) {x1 x2 : Int} {V V' : mV} {q : Nat × Int} {Q : Nat → Nat → mG → mV → Option Value → Prop} (h0 : q.1 = 0 → T X (2) 152 28 [some (.ref r0), some (.int (iI x1)), some (.int (iI q.2))] [] n z G V' Q) (h1 : q.1 = 1 → ∀ j1 : Option Value, T X (2) 152 79 [some (.ref r0), j1, some (.int (iI q.2))] [] n z G V' Q) (h2 : q.1 = 2 → ∀ j1 : Option Value, T X (2) 152 87 [some (.ref r0), j1, some (.int (iI q.2))] [] n z G V' Q) (h : B_X9_areSlips_28 G r0 x1 x2 V = some (V', q)) : T X (2) 152 28 [some (.ref r0), some (.int (iI x1)), some (.int (iI x2))] [] n z G V Q := by
  unfold B_X9_areSlips_28 at h
  refine t_l fX9_areSlips_28 rfl rfl rfl rfl ?_
  refine t_l fX9_areSlips_29 rfl rfl rfl rfl ?_
  obtain ⟨g10, h⟩ := gd_some h
  obtain ⟨g11, h⟩ := gd_some h
  refine k9_ic_ge fX9_areSlips_30 rfl g10 g11 (fun c9 => ?_) (fun c9 => ?_)
  · replace h := ite_t (c9) h
    cases h
    exact h2 rfl _
  · replace h := ite_f (c9) h
    refine t_l fX9_areSlips_33 rfl rfl rfl rfl ?_
    refine t_l fX9_areSlips_34 rfl rfl rfl rfl ?_
    refine k9_gr fX9_areSlips_35 (hr0).1 kg_9_0 (s9_0r hr0) ?_
    refine t_l fX9_areSlips_38 rfl rfl rfl rfl ?_
    obtain ⟨V12, v13, e14, h⟩ := bd_some h
    refine kcX7_get fX9_areSlips_39 (s9_0s hr0).1 rfl (q_X7_get (s9_0s hr0) e14) (by decide) ?_
    obtain ⟨V15, v16, e17, h⟩ := bd_some h
    refine kcX9_isClock fX9_areSlips_42 (hr0).1 rfl (q_X9_isClock (hr0) e17) (by decide) ?_
    obtain ⟨g19, h⟩ := gd_some h
    refine k9_if_eq fX9_areSlips_45 rfl g19 (fun c18 => ?_) (fun c18 => ?_)
    · replace h := ite_t (c18) h
      cases h
      exact h1 rfl _
    · replace h := ite_f (c18) h
      refine t_l fX9_areSlips_48 rfl rfl rfl rfl ?_
      refine t_l fX9_areSlips_49 rfl rfl rfl rfl ?_
      refine k9_gr fX9_areSlips_50 (hr0).1 kg_9_0 (s9_0r hr0) ?_
      refine t_l fX9_areSlips_53 rfl rfl rfl rfl ?_
      refine t_s fX9_areSlips_54 rfl rfl rfl ?_
      refine k9_iadd fX9_areSlips_55 ?_
      obtain ⟨V20, v21, e22, h⟩ := bd_some h
      refine kcX7_get fX9_areSlips_56 (s9_0s hr0).1 rfl (q_X7_get (s9_0s hr0) e22) (by decide) ?_
      obtain ⟨V23, v24, e25, h⟩ := bd_some h
      refine kcX9_isTask fX9_areSlips_59 (hr0).1 rfl (q_X9_isTask (hr0) e25) (by decide) ?_
      obtain ⟨g27, h⟩ := gd_some h
      refine k9_if_eq fX9_areSlips_62 rfl g27 (fun c26 => ?_) (fun c26 => ?_)
      · replace h := ite_t (c26) h
        cases h
        exact h1 rfl _
      · replace h := ite_f (c26) h
        refine t_l fX9_areSlips_65 rfl rfl rfl rfl ?_
        refine k9_gr fX9_areSlips_66 (hr0).1 kg_9_0 (s9_0r hr0) ?_
        refine t_l fX9_areSlips_69 rfl rfl rfl rfl ?_
        refine t_s fX9_areSlips_70 rfl rfl rfl ?_
        refine k9_iadd fX9_areSlips_71 ?_
        obtain ⟨V28, v29, e30, h⟩ := bd_some h
        refine kcX7_get fX9_areSlips_72 (s9_0s hr0).1 rfl (q_X7_get (s9_0s hr0) e30) (by decide) ?_
        refine t_s fX9_areSlips_75 rfl rfl rfl ?_
        obtain ⟨g32, h⟩ := gd_some h
        refine k9_ic_le fX9_areSlips_76 rfl g32 ⟨by decide, by decide⟩ (fun c31 => ?_) (fun c31 => ?_)
        · replace h := ite_t (c31) h
          replace h := lt_some h
          refine k9_iinc fX9_areSlips_81 rfl (Nat.le_of_ble_eq_true rfl) rfl ?_
          refine k9_goto fX9_areSlips_84 rfl ?_
          cases h
          exact h0 rfl
        · replace h := ite_f (c31) h
          cases h
          exact h1 rfl _

theorem tl_X9_areSlips_28 {X : mX} {n z : Nat} {G : mG} {r0 : Nat} (hr0 : is9 G r0) {x1 x2 : Int} {V V' : mV} {fu : Nat} {q : Nat × Int} {Q : Nat → Nat → mG → mV → Option Value → Prop} (k1 : q.1 = 1 → ∀ j1 : Option Value, T X (2) 152 79 [some (.ref r0), j1, some (.int (iI q.2))] [] n z G V' Q) (k2 : q.1 = 2 → ∀ j1 : Option Value, T X (2) 152 87 [some (.ref r0), j1, some (.int (iI q.2))] [] n z G V' Q) (h : lp (fun (s : Int) V => B_X9_areSlips_28 G r0 x1 s V) fu x2 V = some (V', q)) : T X (2) 152 28 [some (.ref r0), some (.int (iI x1)), some (.int (iI x2))] [] n z G V Q :=
  lp_go (P0 := fun s V => T X (2) 152 28 [some (.ref r0), some (.int (iI x1)), some (.int (iI s))] [] n z G V Q) (PE := fun t s V => (t = 1 → ∀ j1 : Option Value, T X (2) 152 79 [some (.ref r0), j1, some (.int (iI s))] [] n z G V Q) ∧ (t = 2 → ∀ j1 : Option Value, T X (2) 152 87 [some (.ref r0), j1, some (.int (iI s))] [] n z G V Q)) (fun s V V' q hb h0 h1 => tb_X9_areSlips_28 hr0  h0 (fun e => (h1 (by omega)).1 e) (fun e => (h1 (by omega)).2 e) hb) fu x2 V V' q h ⟨k1, k2⟩

theorem q_X9_areSlips {X : mX} {n z : Nat} {G : mG} {r0 : Nat} (hr0 : is9 G r0) {V V' : mV} {v : Int} (h : F_X9_areSlips G r0 V = some (V', v)) : Rn X (2) 152 [.ref r0] n z G V n z G V' (some (.int (iI v))) := by
  refine qi_toR (v := v) (L := [some (.ref r0), none, none]) rfl ?_
  unfold F_X9_areSlips at h
  refine t_l fX9_areSlips_0 rfl rfl rfl rfl ?_
  refine k9_gr fX9_areSlips_1 (hr0).1 kg_9_0 (s9_0r hr0) ?_
  obtain ⟨V1, v2, e3, h⟩ := bd_some h
  refine kcX7_size fX9_areSlips_4 (s9_0s hr0).1 rfl (q_X7_size (s9_0s hr0) e3) (by decide) ?_
  refine t_l fX9_areSlips_7 rfl rfl rfl rfl ?_
  refine t_l fX9_areSlips_8 rfl rfl rfl rfl ?_
  obtain ⟨g5, h⟩ := gd_some h
  refine k9_if_eq fX9_areSlips_9 rfl g5 (fun c4 => ?_) (fun c4 => ?_)
  · replace h := ite_t (c4) h
    refine t_s fX9_areSlips_24 rfl rfl rfl ?_
    refine t_ret fX9_areSlips_25 (rX9_areSlips _ (by decide)) ?_
    exact qf_i h
  · replace h := ite_f (c4) h
    refine t_l fX9_areSlips_12 rfl rfl rfl rfl ?_
    refine t_s fX9_areSlips_13 rfl rfl rfl ?_
    refine k9_irem fX9_areSlips_14 g5 ⟨by decide, by decide⟩ (by decide) ?_
    obtain ⟨g7, h⟩ := gd_some h
    refine k9_if_ne fX9_areSlips_15 rfl g7 (fun c6 => ?_) (fun c6 => ?_)
    · replace h := ite_f (c6) h
      refine t_s fX9_areSlips_24 rfl rfl rfl ?_
      refine t_ret fX9_areSlips_25 (rX9_areSlips _ (by decide)) ?_
      exact qf_i h
    · replace h := ite_t (Classical.not_not.mp c6) h
      refine t_l fX9_areSlips_18 rfl rfl rfl rfl ?_
      refine t_s fX9_areSlips_19 rfl rfl rfl ?_
      refine k9_ic_le fX9_areSlips_21 rfl g5 ⟨by decide, by decide⟩ (fun c8 => ?_) (fun c8 => ?_)
      · replace h := ite_t (c8) h
        refine t_s fX9_areSlips_26 rfl rfl rfl ?_
        refine t_l fX9_areSlips_27 rfl rfl rfl rfl ?_
        obtain ⟨V34, u35, e36, h⟩ := bd_some h
        refine tl_X9_areSlips_28 hr0  (fun e37 j1 => ?_) (fun e37 j1 => ?_) e36
        · replace h := ite_t e37 h
          refine t_s fX9_areSlips_79 rfl rfl rfl ?_
          refine t_ret fX9_areSlips_80 (rX9_areSlips _ (by decide)) ?_
          exact qf_i h
        · replace h := ite_f (by omega) h
          refine t_s fX9_areSlips_87 rfl rfl rfl ?_
          refine t_ret fX9_areSlips_88 (rX9_areSlips _ (by decide)) ?_
          exact qf_i h
      · replace h := ite_f (c8) h
        refine t_s fX9_areSlips_24 rfl rfl rfl ?_
        refine t_ret fX9_areSlips_25 (rX9_areSlips _ (by decide)) ?_
        exact qf_i h

theorem tj_X9_slips_J41 {X : mX} {n z : Nat} {G : mG} {r0 : Nat} (hr0 : is9 G r0) {x1 x2 : Int} {V V' : mV} {v : Int} (h : F_X9_slips_J41 G r0 x1 x2 V = some (V', v)) : T X (3) 134 41 [some (.ref r0), some (.int (iI x1)), some (.int (iI x2))] [] n z G V (qi n z G V' v) := by
  unfold F_X9_slips_J41 at h
  refine t_l fX9_slips_41 rfl rfl rfl rfl ?_
  refine k9_gr fX9_slips_42 (hr0).1 kg_9_0 (s9_0r hr0) ?_
  refine t_s fX9_slips_45 rfl rfl rfl ?_
  obtain ⟨V8, v9, e10, h⟩ := bd_some h
  refine kcX7_cut fX9_slips_46 (s9_0s hr0).1 rfl (q_X7_cut (s9_0s hr0) e10) (by decide) ?_
  refine t_l fX9_slips_49 rfl rfl rfl rfl ?_
  obtain ⟨g12, h⟩ := gd_some h
  refine k9_if_eq fX9_slips_50 rfl g12 (fun c11 => ?_) (fun c11 => ?_)
  · replace h := ite_t (c11) h
    refine t_l fX9_slips_65 rfl rfl rfl rfl ?_
    refine t_s fX9_slips_66 rfl rfl rfl ?_
    obtain ⟨V13, v14, e15, h⟩ := bd_some h
    refine kcX9_refuse fX9_slips_67 (hr0).1 rfl (q_X9_refuse (hr0) e15) (by decide) ?_
    refine t_ret fX9_slips_70 rX9_slips ?_
    exact qf_i h
  · replace h := ite_f (c11) h
    refine t_l fX9_slips_53 rfl rfl rfl rfl ?_
    refine k9_gr fX9_slips_54 (hr0).1 kg_9_3 (s9_3r hr0) ?_
    obtain ⟨V16, v17, e18, h⟩ := bd_some h
    refine kcX7_size fX9_slips_57 (s9_3s hr0).1 rfl (q_X7_size (s9_3s hr0) e18) (by decide) ?_
    refine t_s fX9_slips_60 rfl rfl rfl ?_
    obtain ⟨g19, h⟩ := gd_some h
    refine k9_idiv fX9_slips_61 g19 ⟨by decide, by decide⟩ (by decide) ?_
    refine k9_goto fX9_slips_62 rfl ?_
    refine t_ret fX9_slips_70 rX9_slips ?_
    exact qf_i h

theorem tj_X9_slips_J20 {X : mX} {n z : Nat} {G : mG} {r0 : Nat} (hr0 : is9 G r0) {x1 s0 : Int} {j2 : Option Value} {V V' : mV} {v : Int} (h : F_X9_slips_J20 G r0 x1 s0 V = some (V', v)) : T X (3) 134 20 [some (.ref r0), some (.int (iI x1)), j2] [.int (iI s0)] n z G V (qi n z G V' v) := by
  unfold F_X9_slips_J20 at h
  refine t_l fX9_slips_20 rfl rfl rfl rfl ?_
  refine t_l fX9_slips_21 rfl rfl rfl rfl ?_
  obtain ⟨g7, h⟩ := gd_some h
  refine k9_if_eq fX9_slips_22 rfl g7 (fun c6 => ?_) (fun c6 => ?_)
  · replace h := ite_t (c6) h
    exact tj_X9_slips_J41 hr0   h
  · replace h := ite_f (c6) h
    refine t_l fX9_slips_25 rfl rfl rfl rfl ?_
    refine k9_gr fX9_slips_26 (hr0).1 kg_9_3 (s9_3r hr0) ?_
    refine t_l fX9_slips_29 rfl rfl rfl rfl ?_
    refine k9_gr fX9_slips_30 (hr0).1 kg_9_0 (s9_0r hr0) ?_
    obtain ⟨V20, v21, e22, h⟩ := bd_some h
    refine kcX7_copy fX9_slips_33 (s9_3s hr0).1 rfl rfl (q_X7_copy (s9_3s hr0) (s9_0s hr0) e22) (by decide) ?_
    refine t_l fX9_slips_36 rfl rfl rfl rfl ?_
    refine t_l fX9_slips_37 rfl rfl rfl rfl ?_
    refine k9_pi fX9_slips_38 (hr0).1 kp_9_12 ?_
    replace h := lt_some h
    exact tj_X9_slips_J41 hr0   h

theorem tj_X9_slips_J19 {X : mX} {n z : Nat} {G : mG} {r0 : Nat} (hr0 : is9 G r0) {x1 : Int} {j2 : Option Value} {V V' : mV} {v : Int} (h : F_X9_slips_J19 G r0 x1 V = some (V', v)) : T X (3) 134 19 [some (.ref r0), some (.int (iI x1)), j2] [] n z G V (qi n z G V' v) := by
  unfold F_X9_slips_J19 at h
  refine t_s fX9_slips_19 rfl rfl rfl ?_
  exact tj_X9_slips_J20 hr0   h

theorem q_X9_slips {X : mX} {n z : Nat} {G : mG} {r0 : Nat} (hr0 : is9 G r0) {x1 : Int} {V V' : mV} {v : Int} (h : F_X9_slips G r0 x1 V = some (V', v)) : Rn X (3) 134 [.ref r0, .int (iI x1)] n z G V n z G V' (some (.int (iI v))) := by
  refine qi_toR (v := v) (L := [some (.ref r0), some (.int (iI x1)), none]) rfl ?_
  unfold F_X9_slips at h
  refine t_l fX9_slips_0 rfl rfl rfl rfl ?_
  refine t_l fX9_slips_1 rfl rfl rfl rfl ?_
  obtain ⟨V1, v2, e3, h⟩ := bd_some h
  refine kcX9_isPerson fX9_slips_2 (hr0).1 rfl (q_X9_isPerson (hr0) e3) (by decide) ?_
  obtain ⟨g5, h⟩ := gd_some h
  refine k9_if_eq fX9_slips_5 rfl g5 (fun c4 => ?_) (fun c4 => ?_)
  · replace h := ite_t (c4) h
    exact tj_X9_slips_J19 hr0   h
  · replace h := ite_f (c4) h
    refine t_l fX9_slips_8 rfl rfl rfl rfl ?_
    obtain ⟨V24, v25, e26, h⟩ := bd_some h
    refine kcX9_areSlips fX9_slips_9 (hr0).1 rfl (q_X9_areSlips (hr0) e26) (by decide) ?_
    obtain ⟨g28, h⟩ := gd_some h
    refine k9_if_eq fX9_slips_12 rfl g28 (fun c27 => ?_) (fun c27 => ?_)
    · replace h := ite_t (c27) h
      exact tj_X9_slips_J19 hr0   h
    · replace h := ite_f (c27) h
      refine t_s fX9_slips_15 rfl rfl rfl ?_
      refine k9_goto fX9_slips_16 rfl ?_
      exact tj_X9_slips_J20 hr0   h

theorem tj_X9_fitsSlips_J76_2 {X : mX} {n z : Nat} {G : mG} {r0 : Nat} (hr0 : is9 G r0) {x1 x2 s0 s1 : Int} {j3 j4 : Option Value} {V V' : mV} {q : Nat × Int} {Q : Nat → Nat → mG → mV → Option Value → Prop} (h0 : q.1 = 0 → ∀ j3 j4 : Option Value, T X (6) 153 2 [some (.ref r0), some (.int (iI x1)), some (.int (iI q.2)), j3, j4] [] n z G V' Q) (h1 : q.1 = 1 → ∀ j3 j4 : Option Value, T X (6) 153 79 [some (.ref r0), some (.int (iI x1)), some (.int (iI q.2)), j3, j4] [] n z G V' Q) (h2 : q.1 = 2 → ∀ j3 j4 : Option Value, T X (6) 153 87 [some (.ref r0), some (.int (iI x1)), some (.int (iI q.2)), j3, j4] [] n z G V' Q) (h : F_X9_fitsSlips_J76_2 G r0 x1 x2 s0 s1 V = some (V', q)) : T X (6) 153 76 [some (.ref r0), some (.int (iI x1)), some (.int (iI x2)), j3, j4] [.int (iI s1), .int (iI s0)] n z G V Q := by
  unfold F_X9_fitsSlips_J76_2 at h
  obtain ⟨g22, h⟩ := gd_some h
  obtain ⟨g23, h⟩ := gd_some h
  refine k9_ic_eq fX9_fitsSlips_76 rfl g22 g23 (fun c21 => ?_) (fun c21 => ?_)
  · replace h := ite_t (c21) h
    replace h := lt_some h
    refine k9_iinc fX9_fitsSlips_81 rfl (Nat.le_of_ble_eq_true rfl) rfl ?_
    refine k9_goto fX9_fitsSlips_84 rfl ?_
    cases h
    exact h0 rfl _ _
  · replace h := ite_f (c21) h
    cases h
    exact h1 rfl _ _

theorem tb_X9_fitsSlips_2 {X : mX} {n z : Nat} {G : mG} {r0 : Nat} (hr0 : is9 G r0) {x1 x2 : Int} {j3 j4 : Option Value} {V V' : mV} {q : Nat × Int} {Q : Nat → Nat → mG → mV → Option Value → Prop} (h0 : q.1 = 0 → ∀ j3 j4 : Option Value, T X (6) 153 2 [some (.ref r0), some (.int (iI x1)), some (.int (iI q.2)), j3, j4] [] n z G V' Q) (h1 : q.1 = 1 → ∀ j3 j4 : Option Value, T X (6) 153 79 [some (.ref r0), some (.int (iI x1)), some (.int (iI q.2)), j3, j4] [] n z G V' Q) (h2 : q.1 = 2 → ∀ j3 j4 : Option Value, T X (6) 153 87 [some (.ref r0), some (.int (iI x1)), some (.int (iI q.2)), j3, j4] [] n z G V' Q) (h : B_X9_fitsSlips_2 G r0 x1 x2 V = some (V', q)) : T X (6) 153 2 [some (.ref r0), some (.int (iI x1)), some (.int (iI x2)), j3, j4] [] n z G V Q := by
  unfold B_X9_fitsSlips_2 at h
  refine t_l fX9_fitsSlips_2 rfl rfl rfl rfl ?_
  refine t_l fX9_fitsSlips_3 rfl rfl rfl rfl ?_
  refine k9_gr fX9_fitsSlips_4 (hr0).1 kg_9_3 (s9_3r hr0) ?_
  obtain ⟨V1, v2, e3, h⟩ := bd_some h
  refine kcX7_size fX9_fitsSlips_7 (s9_3s hr0).1 rfl (q_X7_size (s9_3s hr0) e3) (by decide) ?_
  obtain ⟨g5, h⟩ := gd_some h
  obtain ⟨g6, h⟩ := gd_some h
  refine k9_ic_ge fX9_fitsSlips_10 rfl g5 g6 (fun c4 => ?_) (fun c4 => ?_)
  · replace h := ite_t (c4) h
    cases h
    exact h2 rfl _ _
  · replace h := ite_f (c4) h
    refine t_l fX9_fitsSlips_13 rfl rfl rfl rfl ?_
    refine k9_gr fX9_fitsSlips_14 (hr0).1 kg_9_3 (s9_3r hr0) ?_
    refine t_l fX9_fitsSlips_17 rfl rfl rfl rfl ?_
    refine t_s fX9_fitsSlips_18 rfl rfl rfl ?_
    refine k9_iadd fX9_fitsSlips_19 ?_
    obtain ⟨V7, v8, e9, h⟩ := bd_some h
    refine kcX7_get fX9_fitsSlips_20 (s9_3s hr0).1 rfl (q_X7_get (s9_3s hr0) e9) (by decide) ?_
    refine t_l fX9_fitsSlips_23 rfl rfl rfl rfl ?_
    refine t_l fX9_fitsSlips_24 rfl rfl rfl rfl ?_
    refine k9_gr fX9_fitsSlips_25 (hr0).1 kg_9_5 (s9_5r hr0) ?_
    refine t_l fX9_fitsSlips_28 rfl rfl rfl rfl ?_
    refine k9_gr fX9_fitsSlips_29 (hr0).1 kg_9_10 (s9_10r hr0) ?_
    refine t_l fX9_fitsSlips_32 rfl rfl rfl rfl ?_
    refine k9_gr fX9_fitsSlips_33 (hr0).1 kg_9_8 (s9_8r hr0) ?_
    refine t_l fX9_fitsSlips_36 rfl rfl rfl rfl ?_
    refine t_l fX9_fitsSlips_37 rfl rfl rfl rfl ?_
    refine k9_gi fX9_fitsSlips_38 (hr0).1 kg_9_12 ?_
    refine t_l fX9_fitsSlips_41 rfl rfl rfl rfl ?_
    refine t_l fX9_fitsSlips_42 rfl rfl rfl rfl ?_
    refine k9_gr fX9_fitsSlips_43 (hr0).1 kg_9_3 (s9_3r hr0) ?_
    refine t_l fX9_fitsSlips_46 rfl rfl rfl rfl ?_
    obtain ⟨V10, v11, e12, h⟩ := bd_some h
    refine kcX7_get fX9_fitsSlips_47 (s9_3s hr0).1 rfl (q_X7_get (s9_3s hr0) e12) (by decide) ?_
    obtain ⟨V13, v14, e15, h⟩ := bd_some h
    refine kcX2_ableNow fX9_fitsSlips_50 (s9_5s hr0).1 rfl rfl rfl (q_X2_ableNow (s9_5s hr0) (s9_10s hr0) (s9_8s hr0) e15) (by decide) ?_
    refine t_l fX9_fitsSlips_53 rfl rfl rfl rfl ?_
    refine t_l fX9_fitsSlips_55 rfl rfl rfl rfl ?_
    refine t_l fX9_fitsSlips_57 rfl rfl rfl rfl ?_
    refine k9_gr fX9_fitsSlips_58 (hr0).1 kg_9_3 (s9_3r hr0) ?_
    refine t_l fX9_fitsSlips_61 rfl rfl rfl rfl ?_
    refine t_s fX9_fitsSlips_62 rfl rfl rfl ?_
    refine k9_iadd fX9_fitsSlips_63 ?_
    obtain ⟨V16, v17, e18, h⟩ := bd_some h
    refine kcX7_get fX9_fitsSlips_64 (s9_3s hr0).1 rfl (q_X7_get (s9_3s hr0) e18) (by decide) ?_
    refine t_s fX9_fitsSlips_67 rfl rfl rfl ?_
    obtain ⟨g20, h⟩ := gd_some h
    refine k9_ic_ne fX9_fitsSlips_68 rfl g20 ⟨by decide, by decide⟩ (fun c19 => ?_) (fun c19 => ?_)
    · replace h := ite_f (c19) h
      refine t_s fX9_fitsSlips_75 rfl rfl rfl ?_
      exact tj_X9_fitsSlips_J76_2 hr0  h0 h1 h2 h
    · replace h := ite_t (Classical.not_not.mp c19) h
      refine t_s fX9_fitsSlips_71 rfl rfl rfl ?_
      refine k9_goto fX9_fitsSlips_72 rfl ?_
      exact tj_X9_fitsSlips_J76_2 hr0  h0 h1 h2 h

theorem tl_X9_fitsSlips_2 {X : mX} {n z : Nat} {G : mG} {r0 : Nat} (hr0 : is9 G r0) {x1 x2 : Int} {j3 j4 : Option Value} {V V' : mV} {fu : Nat} {q : Nat × Int} {Q : Nat → Nat → mG → mV → Option Value → Prop} (k1 : q.1 = 1 → ∀ j3 j4 : Option Value, T X (6) 153 79 [some (.ref r0), some (.int (iI x1)), some (.int (iI q.2)), j3, j4] [] n z G V' Q) (k2 : q.1 = 2 → ∀ j3 j4 : Option Value, T X (6) 153 87 [some (.ref r0), some (.int (iI x1)), some (.int (iI q.2)), j3, j4] [] n z G V' Q) (h : lp (fun (s : Int) V => B_X9_fitsSlips_2 G r0 x1 s V) fu x2 V = some (V', q)) : T X (6) 153 2 [some (.ref r0), some (.int (iI x1)), some (.int (iI x2)), j3, j4] [] n z G V Q :=
  lp_go (P0 := fun s V => ∀ j3 j4 : Option Value, T X (6) 153 2 [some (.ref r0), some (.int (iI x1)), some (.int (iI s)), j3, j4] [] n z G V Q) (PE := fun t s V => (t = 1 → ∀ j3 j4 : Option Value, T X (6) 153 79 [some (.ref r0), some (.int (iI x1)), some (.int (iI s)), j3, j4] [] n z G V Q) ∧ (t = 2 → ∀ j3 j4 : Option Value, T X (6) 153 87 [some (.ref r0), some (.int (iI x1)), some (.int (iI s)), j3, j4] [] n z G V Q)) (fun s V V' q hb h0 h1 => fun _ _ => tb_X9_fitsSlips_2 hr0  h0 (fun e => (h1 (by omega)).1 e) (fun e => (h1 (by omega)).2 e) hb) fu x2 V V' q h ⟨k1, k2⟩ _ _

theorem q_X9_fitsSlips {X : mX} {n z : Nat} {G : mG} {r0 : Nat} (hr0 : is9 G r0) {x1 : Int} {V V' : mV} {v : Int} (h : F_X9_fitsSlips G r0 x1 V = some (V', v)) : Rn X (6) 153 [.ref r0, .int (iI x1)] n z G V n z G V' (some (.int (iI v))) := by
  refine qi_toR (v := v) (L := [some (.ref r0), some (.int (iI x1)), none, none, none]) rfl ?_
  unfold F_X9_fitsSlips at h
  refine t_s fX9_fitsSlips_0 rfl rfl rfl ?_
  refine t_l fX9_fitsSlips_1 rfl rfl rfl rfl ?_
  obtain ⟨V25, u26, e27, h⟩ := bd_some h
  refine tl_X9_fitsSlips_2 hr0  (fun e28 j3 j4 => ?_) (fun e28 j3 j4 => ?_) e27
  · replace h := ite_t e28 h
    refine t_s fX9_fitsSlips_79 rfl rfl rfl ?_
    refine t_ret fX9_fitsSlips_80 (rX9_fitsSlips _ (by decide)) ?_
    exact qf_i h
  · replace h := ite_f (by omega) h
    refine t_s fX9_fitsSlips_87 rfl rfl rfl ?_
    refine t_ret fX9_fitsSlips_88 (rX9_fitsSlips _ (by decide)) ?_
    exact qf_i h

theorem tb_X9_who_16 {X : mX} {n z : Nat} {G : mG} {r0 : Nat} (hr0 : is9 G r0) {x1 x2 : Int} {V V' : mV} {q : Nat × Int × Int} {Q : Nat → Nat → mG → mV → Option Value → Prop} (h0 : q.1 = 0 → T X (7) 135 16 [some (.ref r0), some (.int (iI q.2.1)), some (.int (iI q.2.2))] [] n z G V' Q) (h1 : q.1 = 1 → T X (7) 135 50 [some (.ref r0), some (.int (iI q.2.1)), some (.int (iI q.2.2))] [] n z G V' Q) (h : B_X9_who_16 G r0 x1 x2 V = some (V', q)) : T X (7) 135 16 [some (.ref r0), some (.int (iI x1)), some (.int (iI x2))] [] n z G V Q := by
  unfold B_X9_who_16 at h
  refine t_l fX9_who_16 rfl rfl rfl rfl ?_
  refine t_l fX9_who_17 rfl rfl rfl rfl ?_
  refine k9_gr fX9_who_18 (hr0).1 kg_9_10 (s9_10r hr0) ?_
  refine k9_gr fX9_who_21 (s9_10s hr0).1 kg_1_0 (s1_0r (s9_10s hr0)) ?_
  obtain ⟨V6, v7, e8, h⟩ := bd_some h
  refine kcX7_size fX9_who_24 (s1_0s (s9_10s hr0)).1 rfl (q_X7_size (s1_0s (s9_10s hr0)) e8) (by decide) ?_
  obtain ⟨g10, h⟩ := gd_some h
  obtain ⟨g11, h⟩ := gd_some h
  refine k9_ic_ge fX9_who_27 rfl g10 g11 (fun c9 => ?_) (fun c9 => ?_)
  · replace h := ite_t (c9) h
    cases h
    exact h1 rfl
  · replace h := ite_f (c9) h
    refine t_l fX9_who_30 rfl rfl rfl rfl ?_
    refine t_l fX9_who_31 rfl rfl rfl rfl ?_
    obtain ⟨V12, v13, e14, h⟩ := bd_some h
    refine kcX9_fitsSlips fX9_who_32 (hr0).1 rfl (q_X9_fitsSlips (hr0) e14) (by decide) ?_
    obtain ⟨g16, h⟩ := gd_some h
    refine k9_if_eq fX9_who_35 rfl g16 (fun c15 => ?_) (fun c15 => ?_)
    · replace h := ite_t (c15) h
      replace h := lt_some h
      refine k9_iinc fX9_who_44 rfl (Nat.le_of_ble_eq_true rfl) rfl ?_
      refine k9_goto fX9_who_47 rfl ?_
      cases h
      exact h0 rfl
    · replace h := ite_f (c15) h
      refine t_l fX9_who_38 rfl rfl rfl rfl ?_
      refine t_s fX9_who_39 rfl rfl rfl ?_
      refine t_l fX9_who_40 rfl rfl rfl rfl ?_
      obtain ⟨g18, h⟩ := gd_some h
      refine k8_ishl fX9_who_41 g18 ?_
      obtain ⟨g19, h⟩ := gd_some h
      refine k8_ior fX9_who_42 g19 ?_
      replace h := lt_some h
      refine t_l fX9_who_43 rfl rfl rfl rfl ?_
      replace h := lt_some h
      refine k9_iinc fX9_who_44 rfl (Nat.le_of_ble_eq_true rfl) rfl ?_
      refine k9_goto fX9_who_47 rfl ?_
      cases h
      exact h0 rfl

theorem tl_X9_who_16 {X : mX} {n z : Nat} {G : mG} {r0 : Nat} (hr0 : is9 G r0) {x1 x2 : Int} {V V' : mV} {fu : Nat} {q : Nat × Int × Int} {Q : Nat → Nat → mG → mV → Option Value → Prop} (k1 : q.1 = 1 → T X (7) 135 50 [some (.ref r0), some (.int (iI q.2.1)), some (.int (iI q.2.2))] [] n z G V' Q) (h : lp (fun (s : Int × Int) V => B_X9_who_16 G r0 s.1 s.2 V) fu (x1, x2) V = some (V', q)) : T X (7) 135 16 [some (.ref r0), some (.int (iI x1)), some (.int (iI x2))] [] n z G V Q :=
  lp_go (P0 := fun s V => T X (7) 135 16 [some (.ref r0), some (.int (iI s.1)), some (.int (iI s.2))] [] n z G V Q) (PE := fun t s V => (t = 1 → T X (7) 135 50 [some (.ref r0), some (.int (iI s.1)), some (.int (iI s.2))] [] n z G V Q)) (fun s V V' q hb h0 h1 => tb_X9_who_16 hr0  h0 (fun e => (h1 (by omega)) e) hb) fu (x1, x2) V V' q h k1

theorem q_X9_who {X : mX} {n z : Nat} {G : mG} {r0 : Nat} (hr0 : is9 G r0) {V V' : mV} {v : Int} (h : F_X9_who G r0 V = some (V', v)) : Rn X (7) 135 [.ref r0] n z G V n z G V' (some (.int (iI v))) := by
  refine qi_toR (v := v) (L := [some (.ref r0), none, none]) rfl ?_
  unfold F_X9_who at h
  refine t_l fX9_who_0 rfl rfl rfl rfl ?_
  refine k9_gr fX9_who_1 (hr0).1 kg_9_3 (s9_3r hr0) ?_
  obtain ⟨V1, v2, e3, h⟩ := bd_some h
  refine kcX7_size fX9_who_4 (s9_3s hr0).1 rfl (q_X7_size (s9_3s hr0) e3) (by decide) ?_
  obtain ⟨g5, h⟩ := gd_some h
  refine k9_if_ne fX9_who_7 rfl g5 (fun c4 => ?_) (fun c4 => ?_)
  · replace h := ite_f (c4) h
    refine t_s fX9_who_12 rfl rfl rfl ?_
    refine t_l fX9_who_13 rfl rfl rfl rfl ?_
    refine t_s fX9_who_14 rfl rfl rfl ?_
    refine t_l fX9_who_15 rfl rfl rfl rfl ?_
    obtain ⟨V22, u23, e24, h⟩ := bd_some h
    refine tl_X9_who_16 hr0  (fun e25 => ?_) e24
    refine t_l fX9_who_50 rfl rfl rfl rfl ?_
    refine t_ret fX9_who_51 rX9_who ?_
    exact qf_i h
  · replace h := ite_t (Classical.not_not.mp c4) h
    refine t_s fX9_who_10 rfl rfl rfl ?_
    refine t_ret fX9_who_11 rX9_who ?_
    exact qf_i h

theorem tb_X9_checkOf_6 {X : mX} {n z : Nat} {G : mG} {r0 : Nat} (hr0 : is7 G r0) {x1 x2 x3 : Int} {V V' : mV} {q : Nat × Int × Int} {Q : Nat → Nat → mG → mV → Option Value → Prop} (h0 : q.1 = 0 → T X (1) 155 6 [some (.ref r0), some (.int (iI x1)), some (.int (iI q.2.1)), some (.int (iI q.2.2))] [] n z G V' Q) (h1 : q.1 = 1 → T X (1) 155 31 [some (.ref r0), some (.int (iI x1)), some (.int (iI q.2.1)), some (.int (iI q.2.2))] [] n z G V' Q) (h : B_X9_checkOf_6 G r0 x1 x2 x3 V = some (V', q)) : T X (1) 155 6 [some (.ref r0), some (.int (iI x1)), some (.int (iI x2)), some (.int (iI x3))] [] n z G V Q := by
  unfold B_X9_checkOf_6 at h
  refine t_l fX9_checkOf_6 rfl rfl rfl rfl ?_
  refine t_l fX9_checkOf_7 rfl rfl rfl rfl ?_
  obtain ⟨g2, h⟩ := gd_some h
  obtain ⟨g3, h⟩ := gd_some h
  refine k9_ic_ge fX9_checkOf_8 rfl g2 g3 (fun c1 => ?_) (fun c1 => ?_)
  · replace h := ite_t (c1) h
    cases h
    exact h1 rfl
  · replace h := ite_f (c1) h
    refine t_s fX9_checkOf_11 rfl rfl rfl ?_
    refine t_l fX9_checkOf_12 rfl rfl rfl rfl ?_
    refine k9_imul fX9_checkOf_13 ?_
    refine t_l fX9_checkOf_14 rfl rfl rfl rfl ?_
    refine t_l fX9_checkOf_15 rfl rfl rfl rfl ?_
    obtain ⟨V4, v5, e6, h⟩ := bd_some h
    refine kcX7_get fX9_checkOf_16 (hr0).1 rfl (q_X7_get (hr0) e6) (by decide) ?_
    refine k9_iadd fX9_checkOf_19 ?_
    refine t_s fX9_checkOf_20 rfl rfl rfl ?_
    obtain ⟨g7, h⟩ := gd_some h
    refine k9_irem fX9_checkOf_23 g7 ⟨by decide, by decide⟩ (by decide) ?_
    replace h := lt_some h
    refine t_l fX9_checkOf_24 rfl rfl rfl rfl ?_
    replace h := lt_some h
    refine k9_iinc fX9_checkOf_25 rfl (Nat.le_of_ble_eq_true rfl) rfl ?_
    refine k9_goto fX9_checkOf_28 rfl ?_
    cases h
    exact h0 rfl

theorem tl_X9_checkOf_6 {X : mX} {n z : Nat} {G : mG} {r0 : Nat} (hr0 : is7 G r0) {x1 x2 x3 : Int} {V V' : mV} {fu : Nat} {q : Nat × Int × Int} {Q : Nat → Nat → mG → mV → Option Value → Prop} (k1 : q.1 = 1 → T X (1) 155 31 [some (.ref r0), some (.int (iI x1)), some (.int (iI q.2.1)), some (.int (iI q.2.2))] [] n z G V' Q) (h : lp (fun (s : Int × Int) V => B_X9_checkOf_6 G r0 x1 s.1 s.2 V) fu (x2, x3) V = some (V', q)) : T X (1) 155 6 [some (.ref r0), some (.int (iI x1)), some (.int (iI x2)), some (.int (iI x3))] [] n z G V Q :=
  lp_go (P0 := fun s V => T X (1) 155 6 [some (.ref r0), some (.int (iI x1)), some (.int (iI s.1)), some (.int (iI s.2))] [] n z G V Q) (PE := fun t s V => (t = 1 → T X (1) 155 31 [some (.ref r0), some (.int (iI x1)), some (.int (iI s.1)), some (.int (iI s.2))] [] n z G V Q)) (fun s V V' q hb h0 h1 => tb_X9_checkOf_6 hr0  h0 (fun e => (h1 (by omega)) e) hb) fu (x2, x3) V V' q h k1

theorem q_X9_checkOf {X : mX} {n z : Nat} {G : mG} {r0 : Nat} (hr0 : is7 G r0) {x1 : Int} {V V' : mV} {v : Int} (h : F_X9_checkOf G r0 x1 V = some (V', v)) : Rn X (1) 155 [.ref r0, .int (iI x1)] n z G V n z G V' (some (.int (iI v))) := by
  refine qi_toR (v := v) (L := [some (.ref r0), some (.int (iI x1)), none, none]) rfl ?_
  unfold F_X9_checkOf at h
  refine t_s fX9_checkOf_0 rfl rfl rfl ?_
  refine t_l fX9_checkOf_3 rfl rfl rfl rfl ?_
  refine t_s fX9_checkOf_4 rfl rfl rfl ?_
  refine t_l fX9_checkOf_5 rfl rfl rfl rfl ?_
  obtain ⟨V10, u11, e12, h⟩ := bd_some h
  refine tl_X9_checkOf_6 hr0  (fun e13 => ?_) e12
  refine t_l fX9_checkOf_31 rfl rfl rfl rfl ?_
  refine t_ret fX9_checkOf_32 rX9_checkOf ?_
  exact qf_i h

theorem tb_X9_image_104 {X : mX} {n z : Nat} {G : mG} {r0 : Nat} (hr0 : is9 G r0) {x1 x2 x3 : Int} {V V' : mV} {q : Nat × Int} {Q : Nat → Nat → mG → mV → Option Value → Prop} (h0 : q.1 = 0 → T X (2) 137 104 [some (.ref r0), some (.int (iI x1)), some (.int (iI x2)), some (.int (iI q.2))] [] n z G V' Q) (h1 : q.1 = 1 → T X (2) 137 131 [some (.ref r0), some (.int (iI x1)), some (.int (iI x2)), some (.int (iI q.2))] [] n z G V' Q) (h : B_X9_image_104 G r0 x1 x2 x3 V = some (V', q)) : T X (2) 137 104 [some (.ref r0), some (.int (iI x1)), some (.int (iI x2)), some (.int (iI x3))] [] n z G V Q := by
  unfold B_X9_image_104 at h
  refine t_l fX9_image_104 rfl rfl rfl rfl ?_
  refine t_l fX9_image_105 rfl rfl rfl rfl ?_
  obtain ⟨g31, h⟩ := gd_some h
  obtain ⟨g32, h⟩ := gd_some h
  refine k9_ic_ge fX9_image_106 rfl g31 g32 (fun c30 => ?_) (fun c30 => ?_)
  · replace h := ite_t (c30) h
    cases h
    exact h1 rfl
  · replace h := ite_f (c30) h
    refine t_l fX9_image_109 rfl rfl rfl rfl ?_
    refine k9_gr fX9_image_110 (hr0).1 kg_9_1 (s9_1r hr0) ?_
    refine t_l fX9_image_113 rfl rfl rfl rfl ?_
    refine k9_gr fX9_image_114 (hr0).1 kg_9_8 (s9_8r hr0) ?_
    refine t_l fX9_image_117 rfl rfl rfl rfl ?_
    refine t_l fX9_image_118 rfl rfl rfl rfl ?_
    obtain ⟨V33, v34, e35, h⟩ := bd_some h
    refine kcX4_pointsOf fX9_image_119 (s9_8s hr0).1 rfl (q_X4_pointsOf (s9_8s hr0) e35) (by decide) ?_
    obtain ⟨V36, v37, e38, h⟩ := bd_some h
    refine kcX7_add fX9_image_122 (s9_1s hr0).1 rfl (q_X7_add (s9_1s hr0) e38) (by decide) ?_
    replace h := lt_some h
    refine k9_iinc fX9_image_125 rfl (Nat.le_of_ble_eq_true rfl) rfl ?_
    refine k9_goto fX9_image_128 rfl ?_
    cases h
    exact h0 rfl

theorem tl_X9_image_104 {X : mX} {n z : Nat} {G : mG} {r0 : Nat} (hr0 : is9 G r0) {x1 x2 x3 : Int} {V V' : mV} {fu : Nat} {q : Nat × Int} {Q : Nat → Nat → mG → mV → Option Value → Prop} (k1 : q.1 = 1 → T X (2) 137 131 [some (.ref r0), some (.int (iI x1)), some (.int (iI x2)), some (.int (iI q.2))] [] n z G V' Q) (h : lp (fun (s : Int) V => B_X9_image_104 G r0 x1 x2 s V) fu x3 V = some (V', q)) : T X (2) 137 104 [some (.ref r0), some (.int (iI x1)), some (.int (iI x2)), some (.int (iI x3))] [] n z G V Q :=
  lp_go (P0 := fun s V => T X (2) 137 104 [some (.ref r0), some (.int (iI x1)), some (.int (iI x2)), some (.int (iI s))] [] n z G V Q) (PE := fun t s V => (t = 1 → T X (2) 137 131 [some (.ref r0), some (.int (iI x1)), some (.int (iI x2)), some (.int (iI s))] [] n z G V Q)) (fun s V V' q hb h0 h1 => tb_X9_image_104 hr0  h0 (fun e => (h1 (by omega)) e) hb) fu x3 V V' q h k1

theorem tb_X9_image_57 {X : mX} {n z : Nat} {G : mG} {r0 : Nat} (hr0 : is9 G r0) {x1 x2 : Int} {j3 : Option Value} {V V' : mV} {q : Nat × Int} {Q : Nat → Nat → mG → mV → Option Value → Prop} (h0 : q.1 = 0 → ∀ j3 : Option Value, T X (2) 137 57 [some (.ref r0), some (.int (iI x1)), some (.int (iI q.2)), j3] [] n z G V' Q) (h1 : q.1 = 1 → ∀ j1 j3 : Option Value, T X (2) 137 137 [some (.ref r0), j1, some (.int (iI q.2)), j3] [] n z G V' Q) (h : B_X9_image_57 G r0 x1 x2 V = some (V', q)) : T X (2) 137 57 [some (.ref r0), some (.int (iI x1)), some (.int (iI x2)), j3] [] n z G V Q := by
  unfold B_X9_image_57 at h
  refine t_l fX9_image_57 rfl rfl rfl rfl ?_
  refine t_l fX9_image_58 rfl rfl rfl rfl ?_
  obtain ⟨g16, h⟩ := gd_some h
  obtain ⟨g17, h⟩ := gd_some h
  refine k9_ic_ge fX9_image_59 rfl g16 g17 (fun c15 => ?_) (fun c15 => ?_)
  · replace h := ite_t (c15) h
    cases h
    exact h1 rfl _ _
  · replace h := ite_f (c15) h
    refine t_l fX9_image_62 rfl rfl rfl rfl ?_
    refine k9_gr fX9_image_63 (hr0).1 kg_9_1 (s9_1r hr0) ?_
    refine t_l fX9_image_66 rfl rfl rfl rfl ?_
    refine k9_gr fX9_image_67 (hr0).1 kg_9_8 (s9_8r hr0) ?_
    refine k9_gr fX9_image_70 (s9_8s hr0).1 kg_4_1 (s4_1r (s9_8s hr0)) ?_
    refine t_l fX9_image_73 rfl rfl rfl rfl ?_
    obtain ⟨V18, v19, e20, h⟩ := bd_some h
    refine kcX7_get fX9_image_74 (s4_1s (s9_8s hr0)).1 rfl (q_X7_get (s4_1s (s9_8s hr0)) e20) (by decide) ?_
    refine t_s fX9_image_77 rfl rfl rfl ?_
    refine k9_iadd fX9_image_78 ?_
    obtain ⟨V21, v22, e23, h⟩ := bd_some h
    refine kcX7_add fX9_image_79 (s9_1s hr0).1 rfl (q_X7_add (s9_1s hr0) e23) (by decide) ?_
    refine t_l fX9_image_82 rfl rfl rfl rfl ?_
    refine k9_gr fX9_image_83 (hr0).1 kg_9_1 (s9_1r hr0) ?_
    refine t_l fX9_image_86 rfl rfl rfl rfl ?_
    refine k9_gr fX9_image_87 (hr0).1 kg_9_8 (s9_8r hr0) ?_
    refine k9_gr fX9_image_90 (s9_8s hr0).1 kg_4_2 (s4_2r (s9_8s hr0)) ?_
    refine t_l fX9_image_93 rfl rfl rfl rfl ?_
    obtain ⟨V24, v25, e26, h⟩ := bd_some h
    refine kcX7_get fX9_image_94 (s4_2s (s9_8s hr0)).1 rfl (q_X7_get (s4_2s (s9_8s hr0)) e26) (by decide) ?_
    refine t_s fX9_image_97 rfl rfl rfl ?_
    refine k9_iadd fX9_image_98 ?_
    obtain ⟨V27, v28, e29, h⟩ := bd_some h
    refine kcX7_add fX9_image_99 (s9_1s hr0).1 rfl (q_X7_add (s9_1s hr0) e29) (by decide) ?_
    refine t_s fX9_image_102 rfl rfl rfl ?_
    refine t_l fX9_image_103 rfl rfl rfl rfl ?_
    obtain ⟨V40, u41, e42, h⟩ := bd_some h
    refine tl_X9_image_104 hr0  (fun e43 => ?_) e42
    replace h := lt_some h
    refine k9_iinc fX9_image_131 rfl (Nat.le_of_ble_eq_true rfl) rfl ?_
    refine k9_goto fX9_image_134 rfl ?_
    cases h
    exact h0 rfl _

theorem tl_X9_image_57 {X : mX} {n z : Nat} {G : mG} {r0 : Nat} (hr0 : is9 G r0) {x1 x2 : Int} {j3 : Option Value} {V V' : mV} {fu : Nat} {q : Nat × Int} {Q : Nat → Nat → mG → mV → Option Value → Prop} (k1 : q.1 = 1 → ∀ j1 j3 : Option Value, T X (2) 137 137 [some (.ref r0), j1, some (.int (iI q.2)), j3] [] n z G V' Q) (h : lp (fun (s : Int) V => B_X9_image_57 G r0 x1 s V) fu x2 V = some (V', q)) : T X (2) 137 57 [some (.ref r0), some (.int (iI x1)), some (.int (iI x2)), j3] [] n z G V Q :=
  lp_go (P0 := fun s V => ∀ j3 : Option Value, T X (2) 137 57 [some (.ref r0), some (.int (iI x1)), some (.int (iI s)), j3] [] n z G V Q) (PE := fun t s V => (t = 1 → ∀ j1 j3 : Option Value, T X (2) 137 137 [some (.ref r0), j1, some (.int (iI s)), j3] [] n z G V Q)) (fun s V V' q hb h0 h1 => fun _ => tb_X9_image_57 hr0  h0 (fun e => (h1 (by omega)) e) hb) fu x2 V V' q h k1 _

theorem q_X9_image {X : mX} {n z : Nat} {G : mG} {r0 : Nat} (hr0 : is9 G r0) {V V' : mV} {v : Int} (h : F_X9_image G r0 V = some (V', v)) : Rn X (2) 137 [.ref r0] n z G V n z G V' (some (.int (iI v))) := by
  refine qi_toR (v := v) (L := [some (.ref r0), none, none, none]) rfl ?_
  unfold F_X9_image at h
  refine t_l fX9_image_0 rfl rfl rfl rfl ?_
  refine k9_gr fX9_image_1 (hr0).1 kg_9_10 (s9_10r hr0) ?_
  refine k9_gr fX9_image_4 (s9_10s hr0).1 kg_1_0 (s1_0r (s9_10s hr0)) ?_
  obtain ⟨V1, v2, e3, h⟩ := bd_some h
  refine kcX7_size fX9_image_7 (s1_0s (s9_10s hr0)).1 rfl (q_X7_size (s1_0s (s9_10s hr0)) e3) (by decide) ?_
  refine t_l fX9_image_10 rfl rfl rfl rfl ?_
  refine t_l fX9_image_11 rfl rfl rfl rfl ?_
  refine k9_gr fX9_image_12 (hr0).1 kg_9_1 (s9_1r hr0) ?_
  refine t_s fX9_image_15 rfl rfl rfl ?_
  obtain ⟨V4, v5, e6, h⟩ := bd_some h
  refine kcX7_cut fX9_image_16 (s9_1s hr0).1 rfl (q_X7_cut (s9_1s hr0) e6) (by decide) ?_
  refine t_l fX9_image_19 rfl rfl rfl rfl ?_
  refine k9_gr fX9_image_20 (hr0).1 kg_9_1 (s9_1r hr0) ?_
  refine t_l fX9_image_23 rfl rfl rfl rfl ?_
  refine k9_gr fX9_image_24 (hr0).1 kg_9_8 (s9_8r hr0) ?_
  refine k9_gi fX9_image_27 (s9_8s hr0).1 kg_4_0 ?_
  refine t_s fX9_image_30 rfl rfl rfl ?_
  obtain ⟨g7, h⟩ := gd_some h
  refine k9_idiv fX9_image_33 g7 ⟨by decide, by decide⟩ (by decide) ?_
  obtain ⟨V8, v9, e10, h⟩ := bd_some h
  refine kcX7_add fX9_image_34 (s9_1s hr0).1 rfl (q_X7_add (s9_1s hr0) e10) (by decide) ?_
  refine t_l fX9_image_37 rfl rfl rfl rfl ?_
  refine k9_gr fX9_image_38 (hr0).1 kg_9_1 (s9_1r hr0) ?_
  refine t_l fX9_image_41 rfl rfl rfl rfl ?_
  refine k9_gr fX9_image_42 (hr0).1 kg_9_8 (s9_8r hr0) ?_
  refine k9_gi fX9_image_45 (s9_8s hr0).1 kg_4_0 ?_
  refine t_s fX9_image_48 rfl rfl rfl ?_
  obtain ⟨g11, h⟩ := gd_some h
  refine k9_irem fX9_image_51 g11 ⟨by decide, by decide⟩ (by decide) ?_
  obtain ⟨V12, v13, e14, h⟩ := bd_some h
  refine kcX7_add fX9_image_52 (s9_1s hr0).1 rfl (q_X7_add (s9_1s hr0) e14) (by decide) ?_
  refine t_s fX9_image_55 rfl rfl rfl ?_
  refine t_l fX9_image_56 rfl rfl rfl rfl ?_
  obtain ⟨V45, u46, e47, h⟩ := bd_some h
  refine tl_X9_image_57 hr0  (fun e48 j1 j3 => ?_) e47
  refine t_l fX9_image_137 rfl rfl rfl rfl ?_
  refine k9_gr fX9_image_138 (hr0).1 kg_9_1 (s9_1r hr0) ?_
  refine t_l fX9_image_141 rfl rfl rfl rfl ?_
  refine k9_gr fX9_image_142 (hr0).1 kg_9_1 (s9_1r hr0) ?_
  refine t_l fX9_image_145 rfl rfl rfl rfl ?_
  refine k9_gr fX9_image_146 (hr0).1 kg_9_1 (s9_1r hr0) ?_
  obtain ⟨V49, v50, e51, h⟩ := bd_some h
  refine kcX7_size fX9_image_149 (s9_1s hr0).1 rfl (q_X7_size (s9_1s hr0) e51) (by decide) ?_
  obtain ⟨V52, v53, e54, h⟩ := bd_some h
  refine kcX9_checkOf fX9_image_152 rfl rfl (q_X9_checkOf (s9_1s hr0) e54) (by decide) ?_
  obtain ⟨V55, v56, e57, h⟩ := bd_some h
  refine kcX7_add fX9_image_155 (s9_1s hr0).1 rfl (q_X7_add (s9_1s hr0) e57) (by decide) ?_
  refine t_l fX9_image_158 rfl rfl rfl rfl ?_
  refine k9_gr fX9_image_159 (hr0).1 kg_9_1 (s9_1r hr0) ?_
  obtain ⟨V58, v59, e60, h⟩ := bd_some h
  refine kcX7_size fX9_image_162 (s9_1s hr0).1 rfl (q_X7_size (s9_1s hr0) e60) (by decide) ?_
  refine t_ret fX9_image_165 rX9_image ?_
  exact qf_i h

theorem q_X9_octet {X : mX} {n z : Nat} {G : mG} {r0 : Nat} (hr0 : is9 G r0) {x1 : Int} {V V' : mV} {v : Int} (h : F_X9_octet G r0 x1 V = some (V', v)) : Rn X (1) 138 [.ref r0, .int (iI x1)] n z G V n z G V' (some (.int (iI v))) := by
  refine qi_toR (v := v) (L := [some (.ref r0), some (.int (iI x1))]) rfl ?_
  unfold F_X9_octet at h
  refine t_l fX9_octet_0 rfl rfl rfl rfl ?_
  refine k9_gr fX9_octet_1 (hr0).1 kg_9_1 (s9_1r hr0) ?_
  refine t_l fX9_octet_4 rfl rfl rfl rfl ?_
  obtain ⟨V1, v2, e3, h⟩ := bd_some h
  refine kcX7_get fX9_octet_5 (s9_1s hr0).1 rfl (q_X7_get (s9_1s hr0) e3) (by decide) ?_
  refine t_ret fX9_octet_8 rX9_octet ?_
  exact qf_i h


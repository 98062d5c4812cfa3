theorem tb_X9_isImage_177 {X : mX} {n z : Nat} {G : mG} {r0 : Nat} (hr0 : is9 G r0) {x1 x3 x4 x5 x8 : Int} {j2 j6 j7 j9 : Option Value} {V V' : mV} {q : Nat × Int} {Q : Nat → Nat → mG → mV → Option Value → Prop} (h0 : q.1 = 0 → ∀ j2 j6 j7 j9 : Option Value, T X (2) 156 177 [some (.ref r0), some (.int (iI x1)), j2, some (.int (iI x3)), some (.int (iI x4)), some (.int (iI x5)), j6, j7, some (.int (iI q.2)), j9] [] n z G V' Q) (h1 : q.1 = 1 → ∀ j2 j5 j6 j7 j9 : Option Value, T X (2) 156 220 [some (.ref r0), some (.int (iI x1)), j2, some (.int (iI x3)), some (.int (iI x4)), j5, j6, j7, some (.int (iI q.2)), j9] [] n z G V' Q) (h2 : q.1 = 2 → ∀ j2 j5 j6 j7 j9 : Option Value, T X (2) 156 228 [some (.ref r0), some (.int (iI x1)), j2, some (.int (iI x3)), some (.int (iI x4)), j5, j6, j7, some (.int (iI q.2)), j9] [] n z G V' Q) (h : B_X9_isImage_177 G r0 x1 x3 x4 x5 x8 V = some (V', q)) : T X (2) 156 177 [some (.ref r0), some (.int (iI x1)), j2, some (.int (iI x3)), some (.int (iI x4)), some (.int (iI x5)), j6, j7, some (.int (iI x8)), j9] [] n z G V Q := by
  unfold B_X9_isImage_177 at h
  refine t_l fX9_isImage_177 rfl rfl rfl rfl ?_
  refine t_l fX9_isImage_179 rfl rfl rfl rfl ?_
  obtain ⟨g49, h⟩ := gd_some h
  obtain ⟨g50, h⟩ := gd_some h
  refine k9_ic_ge fX9_isImage_180 rfl g49 g50 (fun c48 => ?_) (fun c48 => ?_)
  · replace h := ite_t (c48) h
    cases h
    exact h2 rfl _ _ _ _ _
  · replace h := ite_f (c48) h
    refine t_l fX9_isImage_183 rfl rfl rfl rfl ?_
    refine k9_gr fX9_isImage_184 (hr0).1 kg_9_0 (s9_0r hr0) ?_
    refine t_l fX9_isImage_187 rfl rfl rfl rfl ?_
    refine t_s fX9_isImage_189 rfl rfl rfl ?_
    refine k9_iadd fX9_isImage_190 ?_
    refine t_l fX9_isImage_191 rfl rfl rfl rfl ?_
    refine k9_iadd fX9_isImage_193 ?_
    obtain ⟨V51, v52, e53, h⟩ := bd_some h
    refine kcX7_get fX9_isImage_194 (s9_0s hr0).1 rfl (q_X7_get (s9_0s hr0) e53) (by decide) ?_
    refine t_l fX9_isImage_197 rfl rfl rfl rfl ?_
    refine t_l fX9_isImage_199 rfl rfl rfl rfl ?_
    refine t_s fX9_isImage_201 rfl rfl rfl ?_
    obtain ⟨g55, h⟩ := gd_some h
    refine k9_ic_gt fX9_isImage_203 rfl g55 ⟨by decide, by decide⟩ (fun c54 => ?_) (fun c54 => ?_)
    · replace h := ite_t (c54) h
      cases h
      exact h1 rfl _ _ _ _ _
    · replace h := ite_f (c54) h
      refine t_l fX9_isImage_206 rfl rfl rfl rfl ?_
      refine t_l fX9_isImage_208 rfl rfl rfl rfl ?_
      obtain ⟨g57, h⟩ := gd_some h
      refine k9_ic_ne fX9_isImage_210 rfl g49 g57 (fun c56 => ?_) (fun c56 => ?_)
      · replace h := ite_f (c56) h
        replace h := lt_some h
        refine k9_iinc fX9_isImage_222 rfl (Nat.le_of_ble_eq_true rfl) rfl ?_
        refine k9_goto fX9_isImage_225 rfl ?_
        cases h
        exact h0 rfl _ _ _ _
      · replace h := ite_t (Classical.not_not.mp c56) h
        refine t_l fX9_isImage_213 rfl rfl rfl rfl ?_
        refine t_s fX9_isImage_215 rfl rfl rfl ?_
        refine k9_ic_eq fX9_isImage_217 rfl g55 ⟨by decide, by decide⟩ (fun c59 => ?_) (fun c59 => ?_)
        · replace h := ite_t (c59) h
          replace h := lt_some h
          refine k9_iinc fX9_isImage_222 rfl (Nat.le_of_ble_eq_true rfl) rfl ?_
          refine k9_goto fX9_isImage_225 rfl ?_
          cases h
          exact h0 rfl _ _ _ _
        · replace h := ite_f (c59) h
          cases h
          exact h1 rfl _ _ _ _ _

theorem tl_X9_isImage_177 {X : mX} {n z : Nat} {G : mG} {r0 : Nat} (hr0 : is9 G r0) {x1 x3 x4 x5 x8 : Int} {j2 j6 j7 j9 : Option Value} {V V' : mV} {fu : Nat} {q : Nat × Int} {Q : Nat → Nat → mG → mV → Option Value → Prop} (k1 : q.1 = 1 → ∀ j2 j5 j6 j7 j9 : Option Value, T X (2) 156 220 [some (.ref r0), some (.int (iI x1)), j2, some (.int (iI x3)), some (.int (iI x4)), j5, j6, j7, some (.int (iI q.2)), j9] [] n z G V' Q) (k2 : q.1 = 2 → ∀ j2 j5 j6 j7 j9 : Option Value, T X (2) 156 228 [some (.ref r0), some (.int (iI x1)), j2, some (.int (iI x3)), some (.int (iI x4)), j5, j6, j7, some (.int (iI q.2)), j9] [] n z G V' Q) (h : lp (fun (s : Int) V => B_X9_isImage_177 G r0 x1 x3 x4 x5 s V) fu x8 V = some (V', q)) : T X (2) 156 177 [some (.ref r0), some (.int (iI x1)), j2, some (.int (iI x3)), some (.int (iI x4)), some (.int (iI x5)), j6, j7, some (.int (iI x8)), j9] [] n z G V Q :=
  lp_go (P0 := fun s V => ∀ j2 j6 j7 j9 : Option Value, T X (2) 156 177 [some (.ref r0), some (.int (iI x1)), j2, some (.int (iI x3)), some (.int (iI x4)), some (.int (iI x5)), j6, j7, some (.int (iI s)), j9] [] n z G V Q) (PE := fun t s V => (t = 1 → ∀ j2 j5 j6 j7 j9 : Option Value, T X (2) 156 220 [some (.ref r0), some (.int (iI x1)), j2, some (.int (iI x3)), some (.int (iI x4)), j5, j6, j7, some (.int (iI s)), j9] [] n z G V Q) ∧ (t = 2 → ∀ j2 j5 j6 j7 j9 : Option Value, T X (2) 156 228 [some (.ref r0), some (.int (iI x1)), j2, some (.int (iI x3)), some (.int (iI x4)), j5, j6, j7, some (.int (iI s)), j9] [] n z G V Q)) (fun s V V' q hb h0 h1 => fun _ _ _ _ => tb_X9_isImage_177 hr0  h0 (fun e => (h1 (by omega)).1 e) (fun e => (h1 (by omega)).2 e) hb) fu x8 V V' q h ⟨k1, k2⟩ _ _ _ _

theorem tj_X9_isImage_J167_87 {X : mX} {n z : Nat} {G : mG} {r0 : Nat} (hr0 : is9 G r0) {x1 x3 x4 x5 x6 : Int} {j2 j7 j8 j9 : Option Value} {V V' : mV} {q : Nat × Int × Int} {Q : Nat → Nat → mG → mV → Option Value → Prop} (h0 : q.1 = 0 → ∀ j2 j5 j6 j7 j8 j9 : Option Value, T X (2) 156 87 [some (.ref r0), some (.int (iI x1)), j2, some (.int (iI q.2.1)), some (.int (iI q.2.2)), j5, j6, j7, j8, j9] [] n z G V' Q) (h1 : q.1 = 1 → ∀ j1 j2 j5 j6 j7 j8 j9 : Option Value, T X (2) 156 148 [some (.ref r0), j1, j2, some (.int (iI q.2.1)), some (.int (iI q.2.2)), j5, j6, j7, j8, j9] [] n z G V' Q) (h2 : q.1 = 2 → ∀ j1 j2 j5 j6 j7 j8 j9 : Option Value, T X (2) 156 165 [some (.ref r0), j1, j2, some (.int (iI q.2.1)), some (.int (iI q.2.2)), j5, j6, j7, j8, j9] [] n z G V' Q) (h3 : q.1 = 3 → ∀ j1 j2 j5 j6 j7 j8 j9 : Option Value, T X (2) 156 220 [some (.ref r0), j1, j2, some (.int (iI q.2.1)), some (.int (iI q.2.2)), j5, j6, j7, j8, j9] [] n z G V' Q) (h4 : q.1 = 4 → ∀ j1 j2 j5 j6 j7 j8 j9 : Option Value, T X (2) 156 234 [some (.ref r0), j1, j2, some (.int (iI q.2.1)), some (.int (iI q.2.2)), j5, j6, j7, j8, j9] [] n z G V' Q) (h : F_X9_isImage_J167_87 G r0 x1 x3 x4 x5 x6 V = some (V', q)) : T X (2) 156 167 [some (.ref r0), some (.int (iI x1)), j2, some (.int (iI x3)), some (.int (iI x4)), some (.int (iI x5)), some (.int (iI x6)), j7, j8, j9] [] n z G V Q := by
  unfold F_X9_isImage_J167_87 at h
  refine t_l fX9_isImage_167 rfl rfl rfl rfl ?_
  refine t_s fX9_isImage_168 rfl rfl rfl ?_
  refine t_l fX9_isImage_169 rfl rfl rfl rfl ?_
  obtain ⟨g45, h⟩ := gd_some h
  refine k8_ishl fX9_isImage_171 g45 ?_
  obtain ⟨g46, h⟩ := gd_some h
  refine k8_ior fX9_isImage_172 g46 ?_
  replace h := lt_some h
  refine t_l fX9_isImage_173 rfl rfl rfl rfl ?_
  refine t_s fX9_isImage_174 rfl rfl rfl ?_
  refine t_l fX9_isImage_175 rfl rfl rfl rfl ?_
  obtain ⟨V61, u62, e63, h⟩ := bd_some h
  refine tl_X9_isImage_177 hr0  (fun e64 j2 j5 j6 j7 j9 => ?_) (fun e64 j2 j5 j6 j7 j9 => ?_) e63
  · replace h := ite_t e64 h
    cases h
    exact h3 rfl _ _ _ _ _ _ _
  · replace h := ite_f (by omega) h
    replace h := lt_some h
    refine k9_iinc fX9_isImage_228 rfl (Nat.le_of_ble_eq_true rfl) rfl ?_
    refine k9_goto fX9_isImage_231 rfl ?_
    cases h
    exact h0 rfl _ _ _ _ _ _

theorem tb_X9_isImage_87 {X : mX} {n z : Nat} {G : mG} {r0 : Nat} (hr0 : is9 G r0) {x1 x3 x4 : Int} {j2 j5 j6 j7 j8 j9 : Option Value} {V V' : mV} {q : Nat × Int × Int} {Q : Nat → Nat → mG → mV → Option Value → Prop} (h0 : q.1 = 0 → ∀ j2 j5 j6 j7 j8 j9 : Option Value, T X (2) 156 87 [some (.ref r0), some (.int (iI x1)), j2, some (.int (iI q.2.1)), some (.int (iI q.2.2)), j5, j6, j7, j8, j9] [] n z G V' Q) (h1 : q.1 = 1 → ∀ j1 j2 j5 j6 j7 j8 j9 : Option Value, T X (2) 156 148 [some (.ref r0), j1, j2, some (.int (iI q.2.1)), some (.int (iI q.2.2)), j5, j6, j7, j8, j9] [] n z G V' Q) (h2 : q.1 = 2 → ∀ j1 j2 j5 j6 j7 j8 j9 : Option Value, T X (2) 156 165 [some (.ref r0), j1, j2, some (.int (iI q.2.1)), some (.int (iI q.2.2)), j5, j6, j7, j8, j9] [] n z G V' Q) (h3 : q.1 = 3 → ∀ j1 j2 j5 j6 j7 j8 j9 : Option Value, T X (2) 156 220 [some (.ref r0), j1, j2, some (.int (iI q.2.1)), some (.int (iI q.2.2)), j5, j6, j7, j8, j9] [] n z G V' Q) (h4 : q.1 = 4 → ∀ j1 j2 j5 j6 j7 j8 j9 : Option Value, T X (2) 156 234 [some (.ref r0), j1, j2, some (.int (iI q.2.1)), some (.int (iI q.2.2)), j5, j6, j7, j8, j9] [] n z G V' Q) (h : B_X9_isImage_87 G r0 x1 x3 x4 V = some (V', q)) : T X (2) 156 87 [some (.ref r0), some (.int (iI x1)), j2, some (.int (iI x3)), some (.int (iI x4)), j5, j6, j7, j8, j9] [] n z G V Q := by
  unfold B_X9_isImage_87 at h
  refine t_l fX9_isImage_87 rfl rfl rfl rfl ?_
  refine t_l fX9_isImage_89 rfl rfl rfl rfl ?_
  obtain ⟨g29, h⟩ := gd_some h
  obtain ⟨g30, h⟩ := gd_some h
  refine k9_ic_ge fX9_isImage_90 rfl g29 g30 (fun c28 => ?_) (fun c28 => ?_)
  · replace h := ite_t (c28) h
    cases h
    exact h4 rfl _ _ _ _ _ _ _
  · replace h := ite_f (c28) h
    refine t_s fX9_isImage_93 rfl rfl rfl ?_
    refine t_l fX9_isImage_94 rfl rfl rfl rfl ?_
    refine t_s fX9_isImage_96 rfl rfl rfl ?_
    refine t_l fX9_isImage_97 rfl rfl rfl rfl ?_
    refine k9_iadd fX9_isImage_98 ?_
    refine k9_imul fX9_isImage_99 ?_
    refine k9_iadd fX9_isImage_100 ?_
    replace h := lt_some h
    refine t_l fX9_isImage_101 rfl rfl rfl rfl ?_
    refine t_l fX9_isImage_103 rfl rfl rfl rfl ?_
    refine k9_gr fX9_isImage_104 (hr0).1 kg_9_0 (s9_0r hr0) ?_
    refine t_l fX9_isImage_107 rfl rfl rfl rfl ?_
    obtain ⟨V32, v33, e34, h⟩ := bd_some h
    refine kcX7_get fX9_isImage_109 (s9_0s hr0).1 rfl (q_X7_get (s9_0s hr0) e34) (by decide) ?_
    refine t_l fX9_isImage_112 rfl rfl rfl rfl ?_
    refine t_l fX9_isImage_114 rfl rfl rfl rfl ?_
    refine k9_gr fX9_isImage_115 (hr0).1 kg_9_0 (s9_0r hr0) ?_
    refine t_l fX9_isImage_118 rfl rfl rfl rfl ?_
    refine t_s fX9_isImage_120 rfl rfl rfl ?_
    refine k9_iadd fX9_isImage_121 ?_
    obtain ⟨V35, v36, e37, h⟩ := bd_some h
    refine kcX7_get fX9_isImage_122 (s9_0s hr0).1 rfl (q_X7_get (s9_0s hr0) e37) (by decide) ?_
    refine t_l fX9_isImage_125 rfl rfl rfl rfl ?_
    refine t_l fX9_isImage_127 rfl rfl rfl rfl ?_
    refine t_l fX9_isImage_129 rfl rfl rfl rfl ?_
    obtain ⟨g39, h⟩ := gd_some h
    refine k9_ic_gt fX9_isImage_130 rfl g39 g30 (fun c38 => ?_) (fun c38 => ?_)
    · replace h := ite_t (c38) h
      cases h
      exact h1 rfl _ _ _ _ _ _ _
    · replace h := ite_f (c38) h
      refine t_l fX9_isImage_133 rfl rfl rfl rfl ?_
      refine t_l fX9_isImage_135 rfl rfl rfl rfl ?_
      obtain ⟨g41, h⟩ := gd_some h
      refine k9_ic_gt fX9_isImage_136 rfl g41 g30 (fun c40 => ?_) (fun c40 => ?_)
      · replace h := ite_t (c40) h
        cases h
        exact h1 rfl _ _ _ _ _ _ _
      · replace h := ite_f (c40) h
        refine t_l fX9_isImage_139 rfl rfl rfl rfl ?_
        refine t_l fX9_isImage_141 rfl rfl rfl rfl ?_
        refine t_s fX9_isImage_143 rfl rfl rfl ?_
        refine k9_iadd fX9_isImage_144 ?_
        obtain ⟨g43, h⟩ := gd_some h
        refine k9_ic_ne fX9_isImage_145 rfl g41 g43 (fun c42 => ?_) (fun c42 => ?_)
        · replace h := ite_f (c42) h
          refine t_l fX9_isImage_150 rfl rfl rfl rfl ?_
          refine k9_if_le fX9_isImage_152 rfl g39 (fun c44 => ?_) (fun c44 => ?_)
          · replace h := ite_t (c44) h
            exact tj_X9_isImage_J167_87 hr0  h0 h1 h2 h3 h4 h
          · replace h := ite_f (c44) h
            refine t_l fX9_isImage_155 rfl rfl rfl rfl ?_
            refine t_l fX9_isImage_156 rfl rfl rfl rfl ?_
            obtain ⟨g66, h⟩ := gd_some h
            obtain ⟨g67, h⟩ := gd_some h
            refine k8_ishr fX9_isImage_158 g66 g67 ?_
            refine t_s fX9_isImage_159 rfl rfl rfl ?_
            refine k8_iand2 fX9_isImage_160 ?_
            refine t_s fX9_isImage_161 rfl rfl rfl ?_
            obtain ⟨g69, h⟩ := gd_some h
            refine k9_ic_ne fX9_isImage_162 rfl g69 ⟨by decide, by decide⟩ (fun c68 => ?_) (fun c68 => ?_)
            · replace h := ite_f (c68) h
              exact tj_X9_isImage_J167_87 hr0  h0 h1 h2 h3 h4 h
            · replace h := ite_t (Classical.not_not.mp c68) h
              cases h
              exact h2 rfl _ _ _ _ _ _ _
        · replace h := ite_t (Classical.not_not.mp c42) h
          cases h
          exact h1 rfl _ _ _ _ _ _ _

theorem tl_X9_isImage_87 {X : mX} {n z : Nat} {G : mG} {r0 : Nat} (hr0 : is9 G r0) {x1 x3 x4 : Int} {j2 j5 j6 j7 j8 j9 : Option Value} {V V' : mV} {fu : Nat} {q : Nat × Int × Int} {Q : Nat → Nat → mG → mV → Option Value → Prop} (k1 : q.1 = 1 → ∀ j1 j2 j5 j6 j7 j8 j9 : Option Value, T X (2) 156 148 [some (.ref r0), j1, j2, some (.int (iI q.2.1)), some (.int (iI q.2.2)), j5, j6, j7, j8, j9] [] n z G V' Q) (k2 : q.1 = 2 → ∀ j1 j2 j5 j6 j7 j8 j9 : Option Value, T X (2) 156 165 [some (.ref r0), j1, j2, some (.int (iI q.2.1)), some (.int (iI q.2.2)), j5, j6, j7, j8, j9] [] n z G V' Q) (k3 : q.1 = 3 → ∀ j1 j2 j5 j6 j7 j8 j9 : Option Value, T X (2) 156 220 [some (.ref r0), j1, j2, some (.int (iI q.2.1)), some (.int (iI q.2.2)), j5, j6, j7, j8, j9] [] n z G V' Q) (k4 : q.1 = 4 → ∀ j1 j2 j5 j6 j7 j8 j9 : Option Value, T X (2) 156 234 [some (.ref r0), j1, j2, some (.int (iI q.2.1)), some (.int (iI q.2.2)), j5, j6, j7, j8, j9] [] n z G V' Q) (h : lp (fun (s : Int × Int) V => B_X9_isImage_87 G r0 x1 s.1 s.2 V) fu (x3, x4) V = some (V', q)) : T X (2) 156 87 [some (.ref r0), some (.int (iI x1)), j2, some (.int (iI x3)), some (.int (iI x4)), j5, j6, j7, j8, j9] [] n z G V Q :=
  lp_go (P0 := fun s V => ∀ j2 j5 j6 j7 j8 j9 : Option Value, T X (2) 156 87 [some (.ref r0), some (.int (iI x1)), j2, some (.int (iI s.1)), some (.int (iI s.2)), j5, j6, j7, j8, j9] [] n z G V Q) (PE := fun t s V => (t = 1 → ∀ j1 j2 j5 j6 j7 j8 j9 : Option Value, T X (2) 156 148 [some (.ref r0), j1, j2, some (.int (iI s.1)), some (.int (iI s.2)), j5, j6, j7, j8, j9] [] n z G V Q) ∧ (t = 2 → ∀ j1 j2 j5 j6 j7 j8 j9 : Option Value, T X (2) 156 165 [some (.ref r0), j1, j2, some (.int (iI s.1)), some (.int (iI s.2)), j5, j6, j7, j8, j9] [] n z G V Q) ∧ (t = 3 → ∀ j1 j2 j5 j6 j7 j8 j9 : Option Value, T X (2) 156 220 [some (.ref r0), j1, j2, some (.int (iI s.1)), some (.int (iI s.2)), j5, j6, j7, j8, j9] [] n z G V Q) ∧ (t = 4 → ∀ j1 j2 j5 j6 j7 j8 j9 : Option Value, T X (2) 156 234 [some (.ref r0), j1, j2, some (.int (iI s.1)), some (.int (iI s.2)), j5, j6, j7, j8, j9] [] n z G V Q)) (fun s V V' q hb h0 h1 => fun _ _ _ _ _ _ => tb_X9_isImage_87 hr0  h0 (fun e => (h1 (by omega)).1 e) (fun e => (h1 (by omega)).2.1 e) (fun e => (h1 (by omega)).2.2.1 e) (fun e => (h1 (by omega)).2.2.2 e) hb) fu (x3, x4) V V' q h ⟨k1, k2, k3, k4⟩ _ _ _ _ _ _

theorem q_X9_isImage {X : mX} {n z : Nat} {G : mG} {r0 : Nat} (hr0 : is9 G r0) {V V' : mV} {v : Int} (h : F_X9_isImage G r0 V = some (V', v)) : Rn X (2) 156 [.ref r0] n z G V n z G V' (some (.int (iI v))) := by
  refine qi_toR (v := v) (L := [some (.ref r0), none, none, none, none, none, none, none, none, none]) rfl ?_
  unfold F_X9_isImage at h
  refine t_l fX9_isImage_0 rfl rfl rfl rfl ?_
  refine k9_gr fX9_isImage_1 (hr0).1 kg_9_10 (s9_10r hr0) ?_
  refine k9_gr fX9_isImage_4 (s9_10s hr0).1 kg_1_0 (s1_0r (s9_10s hr0)) ?_
  obtain ⟨V1, v2, e3, h⟩ := bd_some h
  refine kcX7_size fX9_isImage_7 (s1_0s (s9_10s hr0)).1 rfl (q_X7_size (s1_0s (s9_10s hr0)) e3) (by decide) ?_
  refine t_l fX9_isImage_10 rfl rfl rfl rfl ?_
  refine t_s fX9_isImage_11 rfl rfl rfl ?_
  refine t_l fX9_isImage_12 rfl rfl rfl rfl ?_
  refine t_s fX9_isImage_13 rfl rfl rfl ?_
  refine t_l fX9_isImage_14 rfl rfl rfl rfl ?_
  refine k9_iadd fX9_isImage_15 ?_
  refine k9_imul fX9_isImage_16 ?_
  refine k9_iadd fX9_isImage_17 ?_
  replace h := lt_some h
  refine t_l fX9_isImage_18 rfl rfl rfl rfl ?_
  refine t_l fX9_isImage_19 rfl rfl rfl rfl ?_
  refine k9_gr fX9_isImage_20 (hr0).1 kg_9_0 (s9_0r hr0) ?_
  obtain ⟨V5, v6, e7, h⟩ := bd_some h
  refine kcX7_size fX9_isImage_23 (s9_0s hr0).1 rfl (q_X7_size (s9_0s hr0) e7) (by decide) ?_
  refine t_l fX9_isImage_26 rfl rfl rfl rfl ?_
  refine t_s fX9_isImage_27 rfl rfl rfl ?_
  refine k9_iadd fX9_isImage_28 ?_
  obtain ⟨g9, h⟩ := gd_some h
  obtain ⟨g10, h⟩ := gd_some h
  refine k9_ic_ne fX9_isImage_29 rfl g9 g10 (fun c8 => ?_) (fun c8 => ?_)
  · replace h := ite_f (c8) h
    refine t_s fX9_isImage_51 rfl rfl rfl ?_
    refine t_ret fX9_isImage_52 (rX9_isImage _ (by decide)) ?_
    exact qf_i h
  · replace h := ite_t (Classical.not_not.mp c8) h
    refine t_l fX9_isImage_32 rfl rfl rfl rfl ?_
    refine k9_gr fX9_isImage_33 (hr0).1 kg_9_0 (s9_0r hr0) ?_
    refine t_l fX9_isImage_36 rfl rfl rfl rfl ?_
    obtain ⟨V11, v12, e13, h⟩ := bd_some h
    refine kcX7_get fX9_isImage_37 (s9_0s hr0).1 rfl (q_X7_get (s9_0s hr0) e13) (by decide) ?_
    refine t_l fX9_isImage_40 rfl rfl rfl rfl ?_
    refine k9_gr fX9_isImage_41 (hr0).1 kg_9_0 (s9_0r hr0) ?_
    refine t_l fX9_isImage_44 rfl rfl rfl rfl ?_
    obtain ⟨V14, v15, e16, h⟩ := bd_some h
    refine kcX9_checkOf fX9_isImage_45 rfl rfl (q_X9_checkOf (s9_0s hr0) e16) (by decide) ?_
    obtain ⟨g18, h⟩ := gd_some h
    obtain ⟨g19, h⟩ := gd_some h
    refine k9_ic_eq fX9_isImage_48 rfl g18 g19 (fun c17 => ?_) (fun c17 => ?_)
    · replace h := ite_t (c17) h
      refine t_l fX9_isImage_53 rfl rfl rfl rfl ?_
      refine k9_gr fX9_isImage_54 (hr0).1 kg_9_0 (s9_0r hr0) ?_
      refine t_s fX9_isImage_57 rfl rfl rfl ?_
      obtain ⟨V20, v21, e22, h⟩ := bd_some h
      refine kcX7_get fX9_isImage_58 (s9_0s hr0).1 rfl (q_X7_get (s9_0s hr0) e22) (by decide) ?_
      refine t_s fX9_isImage_61 rfl rfl rfl ?_
      refine k9_imul fX9_isImage_64 ?_
      refine t_l fX9_isImage_65 rfl rfl rfl rfl ?_
      refine k9_gr fX9_isImage_66 (hr0).1 kg_9_0 (s9_0r hr0) ?_
      refine t_s fX9_isImage_69 rfl rfl rfl ?_
      obtain ⟨V23, v24, e25, h⟩ := bd_some h
      refine kcX7_get fX9_isImage_70 (s9_0s hr0).1 rfl (q_X7_get (s9_0s hr0) e25) (by decide) ?_
      refine k9_iadd fX9_isImage_73 ?_
      refine t_s fX9_isImage_74 rfl rfl rfl ?_
      obtain ⟨g27, h⟩ := gd_some h
      refine k9_ic_le fX9_isImage_77 rfl g27 ⟨by decide, by decide⟩ (fun c26 => ?_) (fun c26 => ?_)
      · replace h := ite_t (c26) h
        refine t_s fX9_isImage_82 rfl rfl rfl ?_
        refine t_l fX9_isImage_83 rfl rfl rfl rfl ?_
        refine t_s fX9_isImage_84 rfl rfl rfl ?_
        refine t_l fX9_isImage_85 rfl rfl rfl rfl ?_
        obtain ⟨V70, u71, e72, h⟩ := bd_some h
        refine tl_X9_isImage_87 hr0  (fun e73 j1 j2 j5 j6 j7 j8 j9 => ?_) (fun e73 j1 j2 j5 j6 j7 j8 j9 => ?_) (fun e73 j1 j2 j5 j6 j7 j8 j9 => ?_) (fun e73 j1 j2 j5 j6 j7 j8 j9 => ?_) e72
        · replace h := ite_t e73 h
          refine t_s fX9_isImage_148 rfl rfl rfl ?_
          refine t_ret fX9_isImage_149 (rX9_isImage _ (by decide)) ?_
          exact qf_i h
        · replace h := ite_f (by omega) h; replace h := ite_t e73 h
          refine t_s fX9_isImage_165 rfl rfl rfl ?_
          refine t_ret fX9_isImage_166 (rX9_isImage _ (by decide)) ?_
          exact qf_i h
        · replace h := ite_f (by omega) h; replace h := ite_f (by omega) h; replace h := ite_t e73 h
          refine t_s fX9_isImage_220 rfl rfl rfl ?_
          refine t_ret fX9_isImage_221 (rX9_isImage _ (by decide)) ?_
          exact qf_i h
        · replace h := ite_f (by omega) h; replace h := ite_f (by omega) h; replace h := ite_f (by omega) h
          refine t_s fX9_isImage_234 rfl rfl rfl ?_
          refine t_ret fX9_isImage_235 (rX9_isImage _ (by decide)) ?_
          exact qf_i h
      · replace h := ite_f (c26) h
        refine t_s fX9_isImage_80 rfl rfl rfl ?_
        refine t_ret fX9_isImage_81 (rX9_isImage _ (by decide)) ?_
        exact qf_i h
    · replace h := ite_f (c17) h
      refine t_s fX9_isImage_51 rfl rfl rfl ?_
      refine t_ret fX9_isImage_52 (rX9_isImage _ (by decide)) ?_
      exact qf_i h

theorem tb_X9_takeImage_119 {X : mX} {n z : Nat} {G : mG} {r0 : Nat} (hr0 : is9 G r0) {x1 x2 x3 x4 : Int} {V V' : mV} {q : Nat × Int} {Q : Nat → Nat → mG → mV → Option Value → Prop} (h0 : q.1 = 0 → T X (4) 157 119 [some (.ref r0), some (.int (iI x1)), some (.int (iI x2)), some (.int (iI x3)), some (.int (iI q.2))] [] n z G V' Q) (h1 : q.1 = 1 → ∀ j3 : Option Value, T X (4) 157 154 [some (.ref r0), some (.int (iI x1)), some (.int (iI x2)), j3, some (.int (iI q.2))] [] n z G V' Q) (h : B_X9_takeImage_119 G r0 x1 x2 x3 x4 V = some (V', q)) : T X (4) 157 119 [some (.ref r0), some (.int (iI x1)), some (.int (iI x2)), some (.int (iI x3)), some (.int (iI x4))] [] n z G V Q := by
  unfold B_X9_takeImage_119 at h
  refine t_l fX9_takeImage_119 rfl rfl rfl rfl ?_
  refine t_l fX9_takeImage_121 rfl rfl rfl rfl ?_
  obtain ⟨g34, h⟩ := gd_some h
  obtain ⟨g35, h⟩ := gd_some h
  refine k9_ic_ge fX9_takeImage_122 rfl g34 g35 (fun c33 => ?_) (fun c33 => ?_)
  · replace h := ite_t (c33) h
    cases h
    exact h1 rfl _
  · replace h := ite_f (c33) h
    refine t_l fX9_takeImage_125 rfl rfl rfl rfl ?_
    refine k9_gr fX9_takeImage_126 (hr0).1 kg_9_8 (s9_8r hr0) ?_
    refine t_l fX9_takeImage_129 rfl rfl rfl rfl ?_
    refine t_l fX9_takeImage_130 rfl rfl rfl rfl ?_
    refine t_l fX9_takeImage_132 rfl rfl rfl rfl ?_
    refine k9_gr fX9_takeImage_133 (hr0).1 kg_9_0 (s9_0r hr0) ?_
    refine t_l fX9_takeImage_136 rfl rfl rfl rfl ?_
    refine t_s fX9_takeImage_137 rfl rfl rfl ?_
    refine k9_iadd fX9_takeImage_138 ?_
    refine t_l fX9_takeImage_139 rfl rfl rfl rfl ?_
    refine k9_iadd fX9_takeImage_141 ?_
    obtain ⟨V36, v37, e38, h⟩ := bd_some h
    refine kcX7_get fX9_takeImage_142 (s9_0s hr0).1 rfl (q_X7_get (s9_0s hr0) e38) (by decide) ?_
    obtain ⟨V39, v40, e41, h⟩ := bd_some h
    refine kcX4_setPoints fX9_takeImage_145 (s9_8s hr0).1 rfl (q_X4_setPoints (s9_8s hr0) e41) (by decide) ?_
    replace h := lt_some h
    refine k9_iinc fX9_takeImage_148 rfl (Nat.le_of_ble_eq_true rfl) rfl ?_
    refine k9_goto fX9_takeImage_151 rfl ?_
    cases h
    exact h0 rfl

theorem tl_X9_takeImage_119 {X : mX} {n z : Nat} {G : mG} {r0 : Nat} (hr0 : is9 G r0) {x1 x2 x3 x4 : Int} {V V' : mV} {fu : Nat} {q : Nat × Int} {Q : Nat → Nat → mG → mV → Option Value → Prop} (k1 : q.1 = 1 → ∀ j3 : Option Value, T X (4) 157 154 [some (.ref r0), some (.int (iI x1)), some (.int (iI x2)), j3, some (.int (iI q.2))] [] n z G V' Q) (h : lp (fun (s : Int) V => B_X9_takeImage_119 G r0 x1 x2 x3 s V) fu x4 V = some (V', q)) : T X (4) 157 119 [some (.ref r0), some (.int (iI x1)), some (.int (iI x2)), some (.int (iI x3)), some (.int (iI x4))] [] n z G V Q :=
  lp_go (P0 := fun s V => T X (4) 157 119 [some (.ref r0), some (.int (iI x1)), some (.int (iI x2)), some (.int (iI x3)), some (.int (iI s))] [] n z G V Q) (PE := fun t s V => (t = 1 → ∀ j3 : Option Value, T X (4) 157 154 [some (.ref r0), some (.int (iI x1)), some (.int (iI x2)), j3, some (.int (iI s))] [] n z G V Q)) (fun s V V' q hb h0 h1 => tb_X9_takeImage_119 hr0  h0 (fun e => (h1 (by omega)) e) hb) fu x4 V V' q h k1

theorem tb_X9_takeImage_59 {X : mX} {n z : Nat} {G : mG} {r0 : Nat} (hr0 : is9 G r0) {x1 x2 : Int} {j3 j4 : Option Value} {V V' : mV} {q : Nat × Int} {Q : Nat → Nat → mG → mV → Option Value → Prop} (h0 : q.1 = 0 → ∀ j3 j4 : Option Value, T X (4) 157 59 [some (.ref r0), some (.int (iI x1)), some (.int (iI q.2)), j3, j4] [] n z G V' Q) (h1 : q.1 = 1 → ∀ j1 j3 j4 : Option Value, T X (4) 157 160 [some (.ref r0), j1, some (.int (iI q.2)), j3, j4] [] n z G V' Q) (h : B_X9_takeImage_59 G r0 x1 x2 V = some (V', q)) : T X (4) 157 59 [some (.ref r0), some (.int (iI x1)), some (.int (iI x2)), j3, j4] [] n z G V Q := by
  unfold B_X9_takeImage_59 at h
  refine t_l fX9_takeImage_59 rfl rfl rfl rfl ?_
  refine t_l fX9_takeImage_60 rfl rfl rfl rfl ?_
  obtain ⟨g18, h⟩ := gd_some h
  obtain ⟨g19, h⟩ := gd_some h
  refine k9_ic_ge fX9_takeImage_61 rfl g18 g19 (fun c17 => ?_) (fun c17 => ?_)
  · replace h := ite_t (c17) h
    cases h
    exact h1 rfl _ _ _
  · replace h := ite_f (c17) h
    refine t_s fX9_takeImage_64 rfl rfl rfl ?_
    refine t_l fX9_takeImage_65 rfl rfl rfl rfl ?_
    refine t_s fX9_takeImage_66 rfl rfl rfl ?_
    refine t_l fX9_takeImage_67 rfl rfl rfl rfl ?_
    refine k9_iadd fX9_takeImage_68 ?_
    refine k9_imul fX9_takeImage_69 ?_
    refine k9_iadd fX9_takeImage_70 ?_
    replace h := lt_some h
    refine t_l fX9_takeImage_71 rfl rfl rfl rfl ?_
    refine t_l fX9_takeImage_72 rfl rfl rfl rfl ?_
    refine k9_gr fX9_takeImage_73 (hr0).1 kg_9_8 (s9_8r hr0) ?_
    refine k9_gr fX9_takeImage_76 (s9_8s hr0).1 kg_4_1 (s4_1r (s9_8s hr0)) ?_
    refine t_l fX9_takeImage_79 rfl rfl rfl rfl ?_
    refine t_l fX9_takeImage_80 rfl rfl rfl rfl ?_
    refine k9_gr fX9_takeImage_81 (hr0).1 kg_9_0 (s9_0r hr0) ?_
    refine t_l fX9_takeImage_84 rfl rfl rfl rfl ?_
    obtain ⟨V21, v22, e23, h⟩ := bd_some h
    refine kcX7_get fX9_takeImage_85 (s9_0s hr0).1 rfl (q_X7_get (s9_0s hr0) e23) (by decide) ?_
    refine t_s fX9_takeImage_88 rfl rfl rfl ?_
    refine k9_isub fX9_takeImage_89 ?_
    obtain ⟨V24, v25, e26, h⟩ := bd_some h
    refine kcX7_put fX9_takeImage_90 (s4_1s (s9_8s hr0)).1 rfl (q_X7_put (s4_1s (s9_8s hr0)) e26) (by decide) ?_
    refine t_l fX9_takeImage_93 rfl rfl rfl rfl ?_
    refine k9_gr fX9_takeImage_94 (hr0).1 kg_9_8 (s9_8r hr0) ?_
    refine k9_gr fX9_takeImage_97 (s9_8s hr0).1 kg_4_2 (s4_2r (s9_8s hr0)) ?_
    refine t_l fX9_takeImage_100 rfl rfl rfl rfl ?_
    refine t_l fX9_takeImage_101 rfl rfl rfl rfl ?_
    refine k9_gr fX9_takeImage_102 (hr0).1 kg_9_0 (s9_0r hr0) ?_
    refine t_l fX9_takeImage_105 rfl rfl rfl rfl ?_
    refine t_s fX9_takeImage_106 rfl rfl rfl ?_
    refine k9_iadd fX9_takeImage_107 ?_
    obtain ⟨V27, v28, e29, h⟩ := bd_some h
    refine kcX7_get fX9_takeImage_108 (s9_0s hr0).1 rfl (q_X7_get (s9_0s hr0) e29) (by decide) ?_
    refine t_s fX9_takeImage_111 rfl rfl rfl ?_
    refine k9_isub fX9_takeImage_112 ?_
    obtain ⟨V30, v31, e32, h⟩ := bd_some h
    refine kcX7_put fX9_takeImage_113 (s4_2s (s9_8s hr0)).1 rfl (q_X7_put (s4_2s (s9_8s hr0)) e32) (by decide) ?_
    refine t_s fX9_takeImage_116 rfl rfl rfl ?_
    refine t_l fX9_takeImage_117 rfl rfl rfl rfl ?_
    obtain ⟨V43, u44, e45, h⟩ := bd_some h
    refine tl_X9_takeImage_119 hr0  (fun e46 j3 => ?_) e45
    replace h := lt_some h
    refine k9_iinc fX9_takeImage_154 rfl (Nat.le_of_ble_eq_true rfl) rfl ?_
    refine k9_goto fX9_takeImage_157 rfl ?_
    cases h
    exact h0 rfl _ _

theorem tl_X9_takeImage_59 {X : mX} {n z : Nat} {G : mG} {r0 : Nat} (hr0 : is9 G r0) {x1 x2 : Int} {j3 j4 : Option Value} {V V' : mV} {fu : Nat} {q : Nat × Int} {Q : Nat → Nat → mG → mV → Option Value → Prop} (k1 : q.1 = 1 → ∀ j1 j3 j4 : Option Value, T X (4) 157 160 [some (.ref r0), j1, some (.int (iI q.2)), j3, j4] [] n z G V' Q) (h : lp (fun (s : Int) V => B_X9_takeImage_59 G r0 x1 s V) fu x2 V = some (V', q)) : T X (4) 157 59 [some (.ref r0), some (.int (iI x1)), some (.int (iI x2)), j3, j4] [] n z G V Q :=
  lp_go (P0 := fun s V => ∀ j3 j4 : Option Value, T X (4) 157 59 [some (.ref r0), some (.int (iI x1)), some (.int (iI s)), j3, j4] [] n z G V Q) (PE := fun t s V => (t = 1 → ∀ j1 j3 j4 : Option Value, T X (4) 157 160 [some (.ref r0), j1, some (.int (iI s)), j3, j4] [] n z G V Q)) (fun s V V' q hb h0 h1 => fun _ _ => tb_X9_takeImage_59 hr0  h0 (fun e => (h1 (by omega)) e) hb) fu x2 V V' q h k1 _ _

theorem q_X9_takeImage {X : mX} {n z : Nat} {G : mG} {r0 : Nat} (hr0 : is9 G r0) {V V' : mV} {v : Int} (h : F_X9_takeImage G r0 V = some (V', v)) : Rn X (4) 157 [.ref r0] n z G V n z G V' none := by
  refine qv_toR (v := v) (L := [some (.ref r0), none, none, none, none]) rfl ?_
  unfold F_X9_takeImage at h
  refine t_l fX9_takeImage_0 rfl rfl rfl rfl ?_
  refine k9_gr fX9_takeImage_1 (hr0).1 kg_9_10 (s9_10r hr0) ?_
  refine k9_gr fX9_takeImage_4 (s9_10s hr0).1 kg_1_0 (s1_0r (s9_10s hr0)) ?_
  obtain ⟨V1, v2, e3, h⟩ := bd_some h
  refine kcX7_size fX9_takeImage_7 (s1_0s (s9_10s hr0)).1 rfl (q_X7_size (s1_0s (s9_10s hr0)) e3) (by decide) ?_
  refine t_l fX9_takeImage_10 rfl rfl rfl rfl ?_
  refine t_l fX9_takeImage_11 rfl rfl rfl rfl ?_
  refine k9_gr fX9_takeImage_12 (hr0).1 kg_9_8 (s9_8r hr0) ?_
  refine t_l fX9_takeImage_15 rfl rfl rfl rfl ?_
  refine k9_gr fX9_takeImage_16 (hr0).1 kg_9_10 (s9_10r hr0) ?_
  obtain ⟨V4, v5, e6, h⟩ := bd_some h
  refine kcX4_begin fX9_takeImage_19 (s9_8s hr0).1 rfl rfl (q_X4_begin (s9_8s hr0) (s9_10s hr0) e6) (by decide) ?_
  refine t_l fX9_takeImage_22 rfl rfl rfl rfl ?_
  refine k9_gr fX9_takeImage_23 (hr0).1 kg_9_7 (s9_7r hr0) ?_
  obtain ⟨V7, v8, e9, h⟩ := bd_some h
  refine kcX5_clear fX9_takeImage_26 (s9_7s hr0).1 rfl (q_X5_clear (s9_7s hr0) e9) (by decide) ?_
  refine t_l fX9_takeImage_29 rfl rfl rfl rfl ?_
  refine k9_gr fX9_takeImage_30 (hr0).1 kg_9_8 (s9_8r hr0) ?_
  refine t_l fX9_takeImage_33 rfl rfl rfl rfl ?_
  refine k9_gr fX9_takeImage_34 (hr0).1 kg_9_0 (s9_0r hr0) ?_
  refine t_s fX9_takeImage_37 rfl rfl rfl ?_
  obtain ⟨V10, v11, e12, h⟩ := bd_some h
  refine kcX7_get fX9_takeImage_38 (s9_0s hr0).1 rfl (q_X7_get (s9_0s hr0) e12) (by decide) ?_
  refine t_s fX9_takeImage_41 rfl rfl rfl ?_
  refine k9_imul fX9_takeImage_44 ?_
  refine t_l fX9_takeImage_45 rfl rfl rfl rfl ?_
  refine k9_gr fX9_takeImage_46 (hr0).1 kg_9_0 (s9_0r hr0) ?_
  refine t_s fX9_takeImage_49 rfl rfl rfl ?_
  obtain ⟨V13, v14, e15, h⟩ := bd_some h
  refine kcX7_get fX9_takeImage_50 (s9_0s hr0).1 rfl (q_X7_get (s9_0s hr0) e15) (by decide) ?_
  refine k9_iadd fX9_takeImage_53 ?_
  refine k9_pi fX9_takeImage_54 (s9_8s hr0).1 kp_4_0 ?_
  replace h := lt_some h
  refine t_s fX9_takeImage_57 rfl rfl rfl ?_
  refine t_l fX9_takeImage_58 rfl rfl rfl rfl ?_
  obtain ⟨V48, u49, e50, h⟩ := bd_some h
  refine tl_X9_takeImage_59 hr0  (fun e51 j1 j3 j4 => ?_) e50
  refine t_ret fX9_takeImage_160 rX9_takeImage ?_
  exact qf_v h

theorem tj_X9_on_J13 {X : mX} {n z : Nat} {G : mG} {r0 : Nat} (hr0 : is9 G r0) {x1 : Int} {V V' : mV} {v : Int} (h : F_X9_on_J13 G r0 x1 V = some (V', v)) : T X (5) 139 13 [some (.ref r0), some (.int (iI x1))] [] n z G V (qi n z G V' v) := by
  unfold F_X9_on_J13 at h
  refine t_l fX9_on_13 rfl rfl rfl rfl ?_
  refine k9_gr fX9_on_14 (hr0).1 kg_9_0 (s9_0r hr0) ?_
  refine t_s fX9_on_17 rfl rfl rfl ?_
  obtain ⟨V6, v7, e8, h⟩ := bd_some h
  refine kcX7_cut fX9_on_18 (s9_0s hr0).1 rfl (q_X7_cut (s9_0s hr0) e8) (by decide) ?_
  refine t_l fX9_on_21 rfl rfl rfl rfl ?_
  obtain ⟨g10, h⟩ := gd_some h
  refine k9_if_ne fX9_on_22 rfl g10 (fun c9 => ?_) (fun c9 => ?_)
  · replace h := ite_f (c9) h
    refine t_l fX9_on_31 rfl rfl rfl rfl ?_
    obtain ⟨g11, h⟩ := gd_some h
    refine t_ret fX9_on_32 (rX9_on _ g11) ?_
    exact qf_i h
  · replace h := ite_t (Classical.not_not.mp c9) h
    refine t_l fX9_on_25 rfl rfl rfl rfl ?_
    refine t_s fX9_on_26 rfl rfl rfl ?_
    obtain ⟨V12, v13, e14, h⟩ := bd_some h
    refine kcX9_refuse fX9_on_27 (hr0).1 rfl (q_X9_refuse (hr0) e14) (by decide) ?_
    refine t_s fX9_on_30 rfl rfl rfl ?_
    refine t_l fX9_on_31 rfl rfl rfl rfl ?_
    obtain ⟨g15, h⟩ := gd_some h
    refine t_ret fX9_on_32 (rX9_on _ g15) ?_
    exact qf_i h

theorem q_X9_on {X : mX} {n z : Nat} {G : mG} {r0 : Nat} (hr0 : is9 G r0) {V V' : mV} {v : Int} (h : F_X9_on G r0 V = some (V', v)) : Rn X (5) 139 [.ref r0] n z G V n z G V' (some (.int (iI v))) := by
  refine qi_toR (v := v) (L := [some (.ref r0), none]) rfl ?_
  unfold F_X9_on at h
  refine t_l fX9_on_0 rfl rfl rfl rfl ?_
  obtain ⟨V1, v2, e3, h⟩ := bd_some h
  refine kcX9_isImage fX9_on_1 (hr0).1 rfl (q_X9_isImage (hr0) e3) (by decide) ?_
  refine t_l fX9_on_4 rfl rfl rfl rfl ?_
  refine t_l fX9_on_5 rfl rfl rfl rfl ?_
  obtain ⟨g5, h⟩ := gd_some h
  refine k9_if_eq fX9_on_6 rfl g5 (fun c4 => ?_) (fun c4 => ?_)
  · replace h := ite_t (c4) h
    exact tj_X9_on_J13 hr0   h
  · replace h := ite_f (c4) h
    refine t_l fX9_on_9 rfl rfl rfl rfl ?_
    obtain ⟨V16, v17, e18, h⟩ := bd_some h
    refine kcX9_takeImage fX9_on_10 (hr0).1 rfl (q_X9_takeImage (hr0) e18) (by decide) ?_
    exact tj_X9_on_J13 hr0   h

theorem q_X9_status {X : mX} {n z : Nat} {G : mG} {r0 : Nat} (hr0 : is9 G r0) {x1 : Int} {V V' : mV} {v : Int} (h : F_X9_status G r0 x1 V = some (V', v)) : Rn X (1) 140 [.ref r0, .int (iI x1)] n z G V n z G V' (some (.int (iI v))) := by
  refine qi_toR (v := v) (L := [some (.ref r0), some (.int (iI x1))]) rfl ?_
  unfold F_X9_status at h
  refine t_l fX9_status_0 rfl rfl rfl rfl ?_
  refine k9_gr fX9_status_1 (hr0).1 kg_9_2 (s9_2r hr0) ?_
  refine t_l fX9_status_4 rfl rfl rfl rfl ?_
  obtain ⟨V1, v2, e3, h⟩ := bd_some h
  refine kcX7_get fX9_status_5 (s9_2s hr0).1 rfl (q_X7_get (s9_2s hr0) e3) (by decide) ?_
  refine t_ret fX9_status_8 rX9_status ?_
  exact qf_i h

theorem tb_X6_readTest_7 {X : mX} {dd : Nat} (rec : Nat → Int → Int → mV → Option (mV × Int)) {n z : Nat} {G : mG} {r0 : Nat} (hr0 : is6 G r0) (hdd : 30 ≤ dd) (hrec0 : ∀ {a : Int} {V V' : mV} {v : Int}, rec 0 a 0 V = some (V', v) → Rn X dd 86 [.ref r0, .int (iI a)] n z G V n z G V' none) (hrec1 : ∀ {a : Int} {V V' : mV} {v : Int}, rec 1 a 0 V = some (V', v) → Rn X dd 87 [.ref r0, .int (iI a)] n z G V n z G V' none) (hrec2 : ∀ {a : Int} {V V' : mV} {v : Int}, rec 2 a 0 V = some (V', v) → Rn X dd 88 [.ref r0, .int (iI a)] n z G V n z G V' none) (hrec3 : ∀ {a : Int} {V V' : mV} {v : Int}, rec 3 a 0 V = some (V', v) → Rn X dd 90 [.ref r0, .int (iI a)] n z G V n z G V' none) (hrec4 : ∀ {a : Int} {V V' : mV} {v : Int}, rec 4 a 0 V = some (V', v) → Rn X dd 91 [.ref r0, .int (iI a)] n z G V n z G V' none) (hrec5 : ∀ {a : Int} {V V' : mV} {v : Int}, rec 5 a 0 V = some (V', v) → Rn X dd 92 [.ref r0, .int (iI a)] n z G V n z G V' none) (hrec6 : ∀ {a b : Int} {V V' : mV} {v : Int}, rec 6 a b V = some (V', v) → Rn X dd 93 [.ref r0, .int (iI a), .int (iI b)] n z G V n z G V' none) {x1 x2 : Int} {V V' : mV} {q : Nat × Int} {Q : Nat → Nat → mG → mV → Option Value → Prop} (h0 : q.1 = 0 → T X (dd + 1) 86 7 [some (.ref r0), some (.int (iI x1)), some (.int (iI q.2))] [] n z G V' Q) (h1 : q.1 = 1 → T X (dd + 1) 86 48 [some (.ref r0), some (.int (iI x1)), some (.int (iI q.2))] [] n z G V' Q) (h : B_X6_readTest_7 rec G r0 x1 x2 V = some (V', q)) : T X (dd + 1) 86 7 [some (.ref r0), some (.int (iI x1)), some (.int (iI x2))] [] n z G V Q := by
  unfold B_X6_readTest_7 at h
  refine t_l fX6_readTest_7 rfl rfl rfl rfl ?_
  refine t_s fX6_readTest_8 rfl rfl rfl ?_
  obtain ⟨g5, h⟩ := gd_some h
  refine k9_ic_ge fX6_readTest_11 rfl g5 ⟨by decide, by decide⟩ (fun c4 => ?_) (fun c4 => ?_)
  · replace h := ite_t (c4) h
    cases h
    exact h1 rfl
  · replace h := ite_f (c4) h
    refine t_l fX6_readTest_14 rfl rfl rfl rfl ?_
    refine t_s fX6_readTest_15 rfl rfl rfl ?_
    obtain ⟨V6, v7, e8, h⟩ := bd_some h
    refine kcX6_isWord fX6_readTest_17 (hr0).1 rfl (q_X6_isWord (hr0) e8) (by omega) ?_
    obtain ⟨g10, h⟩ := gd_some h
    refine k9_if_eq fX6_readTest_20 rfl g10 (fun c9 => ?_) (fun c9 => ?_)
    · replace h := ite_t (c9) h
      cases h
      exact h1 rfl
    · replace h := ite_f (c9) h
      refine t_l fX6_readTest_23 rfl rfl rfl rfl ?_
      obtain ⟨V11, v12, e13, h⟩ := bd_some h
      refine kcX6_take fX6_readTest_24 (hr0).1 rfl (q_X6_take (hr0) e13) (by omega) ?_
      refine t_l fX6_readTest_27 rfl rfl rfl rfl ?_
      refine t_l fX6_readTest_28 rfl rfl rfl rfl ?_
      obtain ⟨V14, v15, e16, h⟩ := bd_some h
      refine kcX6_readBoth fX6_readTest_29 (hr0).1 rfl (hrec1 e16) (by omega) ?_
      refine t_l fX6_readTest_32 rfl rfl rfl rfl ?_
      refine k9_gr fX6_readTest_33 (hr0).1 kg_6_7 (s6_7r hr0) ?_
      refine t_s fX6_readTest_36 rfl rfl rfl ?_
      refine t_s fX6_readTest_38 rfl rfl rfl ?_
      obtain ⟨V17, v18, e19, h⟩ := bd_some h
      refine kcX3_write fX6_readTest_39 (s6_7s hr0).1 rfl (q_X3_write (s6_7s hr0) e19) (by omega) ?_
      replace h := lt_some h
      refine k9_iinc fX6_readTest_42 rfl (Nat.le_of_ble_eq_true rfl) rfl ?_
      refine k9_goto fX6_readTest_45 rfl ?_
      cases h
      exact h0 rfl

theorem tl_X6_readTest_7 {X : mX} {dd : Nat} (rec : Nat → Int → Int → mV → Option (mV × Int)) {n z : Nat} {G : mG} {r0 : Nat} (hr0 : is6 G r0) (hdd : 30 ≤ dd) (hrec0 : ∀ {a : Int} {V V' : mV} {v : Int}, rec 0 a 0 V = some (V', v) → Rn X dd 86 [.ref r0, .int (iI a)] n z G V n z G V' none) (hrec1 : ∀ {a : Int} {V V' : mV} {v : Int}, rec 1 a 0 V = some (V', v) → Rn X dd 87 [.ref r0, .int (iI a)] n z G V n z G V' none) (hrec2 : ∀ {a : Int} {V V' : mV} {v : Int}, rec 2 a 0 V = some (V', v) → Rn X dd 88 [.ref r0, .int (iI a)] n z G V n z G V' none) (hrec3 : ∀ {a : Int} {V V' : mV} {v : Int}, rec 3 a 0 V = some (V', v) → Rn X dd 90 [.ref r0, .int (iI a)] n z G V n z G V' none) (hrec4 : ∀ {a : Int} {V V' : mV} {v : Int}, rec 4 a 0 V = some (V', v) → Rn X dd 91 [.ref r0, .int (iI a)] n z G V n z G V' none) (hrec5 : ∀ {a : Int} {V V' : mV} {v : Int}, rec 5 a 0 V = some (V', v) → Rn X dd 92 [.ref r0, .int (iI a)] n z G V n z G V' none) (hrec6 : ∀ {a b : Int} {V V' : mV} {v : Int}, rec 6 a b V = some (V', v) → Rn X dd 93 [.ref r0, .int (iI a), .int (iI b)] n z G V n z G V' none) {x1 x2 : Int} {V V' : mV} {fu : Nat} {q : Nat × Int} {Q : Nat → Nat → mG → mV → Option Value → Prop} (k1 : q.1 = 1 → T X (dd + 1) 86 48 [some (.ref r0), some (.int (iI x1)), some (.int (iI q.2))] [] n z G V' Q) (h : lp (fun (s : Int) V => B_X6_readTest_7 rec G r0 x1 s V) fu x2 V = some (V', q)) : T X (dd + 1) 86 7 [some (.ref r0), some (.int (iI x1)), some (.int (iI x2))] [] n z G V Q :=
  lp_go (P0 := fun s V => T X (dd + 1) 86 7 [some (.ref r0), some (.int (iI x1)), some (.int (iI s))] [] n z G V Q) (PE := fun t s V => (t = 1 → T X (dd + 1) 86 48 [some (.ref r0), some (.int (iI x1)), some (.int (iI s))] [] n z G V Q)) (fun s V V' q hb h0 h1 => tb_X6_readTest_7 rec hr0 hdd hrec0 hrec1 hrec2 hrec3 hrec4 hrec5 hrec6  h0 (fun e => (h1 (by omega)) e) hb) fu x2 V V' q h k1

theorem q_X6_readTest {X : mX} {dd : Nat} (rec : Nat → Int → Int → mV → Option (mV × Int)) {n z : Nat} {G : mG} {r0 : Nat} (hr0 : is6 G r0) (hdd : 30 ≤ dd) (hrec0 : ∀ {a : Int} {V V' : mV} {v : Int}, rec 0 a 0 V = some (V', v) → Rn X dd 86 [.ref r0, .int (iI a)] n z G V n z G V' none) (hrec1 : ∀ {a : Int} {V V' : mV} {v : Int}, rec 1 a 0 V = some (V', v) → Rn X dd 87 [.ref r0, .int (iI a)] n z G V n z G V' none) (hrec2 : ∀ {a : Int} {V V' : mV} {v : Int}, rec 2 a 0 V = some (V', v) → Rn X dd 88 [.ref r0, .int (iI a)] n z G V n z G V' none) (hrec3 : ∀ {a : Int} {V V' : mV} {v : Int}, rec 3 a 0 V = some (V', v) → Rn X dd 90 [.ref r0, .int (iI a)] n z G V n z G V' none) (hrec4 : ∀ {a : Int} {V V' : mV} {v : Int}, rec 4 a 0 V = some (V', v) → Rn X dd 91 [.ref r0, .int (iI a)] n z G V n z G V' none) (hrec5 : ∀ {a : Int} {V V' : mV} {v : Int}, rec 5 a 0 V = some (V', v) → Rn X dd 92 [.ref r0, .int (iI a)] n z G V n z G V' none) (hrec6 : ∀ {a b : Int} {V V' : mV} {v : Int}, rec 6 a b V = some (V', v) → Rn X dd 93 [.ref r0, .int (iI a), .int (iI b)] n z G V n z G V' none) {x1 : Int} {V V' : mV} {v : Int} (h : F_X6_readTest rec G r0 x1 V = some (V', v)) : Rn X (dd + 1) 86 [.ref r0, .int (iI x1)] n z G V n z G V' none := by
  refine qv_toR (v := v) (L := [some (.ref r0), some (.int (iI x1)), none]) rfl ?_
  unfold F_X6_readTest at h
  refine t_l fX6_readTest_0 rfl rfl rfl rfl ?_
  refine t_l fX6_readTest_1 rfl rfl rfl rfl ?_
  obtain ⟨V1, v2, e3, h⟩ := bd_some h
  refine kcX6_readBoth fX6_readTest_2 (hr0).1 rfl (hrec1 e3) (by omega) ?_
  refine t_s fX6_readTest_5 rfl rfl rfl ?_
  refine t_l fX6_readTest_6 rfl rfl rfl rfl ?_
  obtain ⟨V21, u22, e23, h⟩ := bd_some h
  refine tl_X6_readTest_7 rec hr0 hdd hrec0 hrec1 hrec2 hrec3 hrec4 hrec5 hrec6  (fun e24 => ?_) e23
  refine t_ret fX6_readTest_48 rX6_readTest ?_
  exact qf_v h

theorem tb_X6_readBoth_7 {X : mX} {dd : Nat} (rec : Nat → Int → Int → mV → Option (mV × Int)) {n z : Nat} {G : mG} {r0 : Nat} (hr0 : is6 G r0) (hdd : 30 ≤ dd) (hrec0 : ∀ {a : Int} {V V' : mV} {v : Int}, rec 0 a 0 V = some (V', v) → Rn X dd 86 [.ref r0, .int (iI a)] n z G V n z G V' none) (hrec1 : ∀ {a : Int} {V V' : mV} {v : Int}, rec 1 a 0 V = some (V', v) → Rn X dd 87 [.ref r0, .int (iI a)] n z G V n z G V' none) (hrec2 : ∀ {a : Int} {V V' : mV} {v : Int}, rec 2 a 0 V = some (V', v) → Rn X dd 88 [.ref r0, .int (iI a)] n z G V n z G V' none) (hrec3 : ∀ {a : Int} {V V' : mV} {v : Int}, rec 3 a 0 V = some (V', v) → Rn X dd 90 [.ref r0, .int (iI a)] n z G V n z G V' none) (hrec4 : ∀ {a : Int} {V V' : mV} {v : Int}, rec 4 a 0 V = some (V', v) → Rn X dd 91 [.ref r0, .int (iI a)] n z G V n z G V' none) (hrec5 : ∀ {a : Int} {V V' : mV} {v : Int}, rec 5 a 0 V = some (V', v) → Rn X dd 92 [.ref r0, .int (iI a)] n z G V n z G V' none) (hrec6 : ∀ {a b : Int} {V V' : mV} {v : Int}, rec 6 a b V = some (V', v) → Rn X dd 93 [.ref r0, .int (iI a), .int (iI b)] n z G V n z G V' none) {x1 x2 : Int} {V V' : mV} {q : Nat × Int} {Q : Nat → Nat → mG → mV → Option Value → Prop} (h0 : q.1 = 0 → T X (dd + 1) 87 7 [some (.ref r0), some (.int (iI x1)), some (.int (iI q.2))] [] n z G V' Q) (h1 : q.1 = 1 → T X (dd + 1) 87 48 [some (.ref r0), some (.int (iI x1)), some (.int (iI q.2))] [] n z G V' Q) (h : B_X6_readBoth_7 rec G r0 x1 x2 V = some (V', q)) : T X (dd + 1) 87 7 [some (.ref r0), some (.int (iI x1)), some (.int (iI x2))] [] n z G V Q := by
  unfold B_X6_readBoth_7 at h
  refine t_l fX6_readBoth_7 rfl rfl rfl rfl ?_
  refine t_s fX6_readBoth_8 rfl rfl rfl ?_
  obtain ⟨g5, h⟩ := gd_some h
  refine k9_ic_ge fX6_readBoth_11 rfl g5 ⟨by decide, by decide⟩ (fun c4 => ?_) (fun c4 => ?_)
  · replace h := ite_t (c4) h
    cases h
    exact h1 rfl
  · replace h := ite_f (c4) h
    refine t_l fX6_readBoth_14 rfl rfl rfl rfl ?_
    refine t_s fX6_readBoth_15 rfl rfl rfl ?_
    obtain ⟨V6, v7, e8, h⟩ := bd_some h
    refine kcX6_isWord fX6_readBoth_17 (hr0).1 rfl (q_X6_isWord (hr0) e8) (by omega) ?_
    obtain ⟨g10, h⟩ := gd_some h
    refine k9_if_eq fX6_readBoth_20 rfl g10 (fun c9 => ?_) (fun c9 => ?_)
    · replace h := ite_t (c9) h
      cases h
      exact h1 rfl
    · replace h := ite_f (c9) h
      refine t_l fX6_readBoth_23 rfl rfl rfl rfl ?_
      obtain ⟨V11, v12, e13, h⟩ := bd_some h
      refine kcX6_take fX6_readBoth_24 (hr0).1 rfl (q_X6_take (hr0) e13) (by omega) ?_
      refine t_l fX6_readBoth_27 rfl rfl rfl rfl ?_
      refine t_l fX6_readBoth_28 rfl rfl rfl rfl ?_
      obtain ⟨V14, v15, e16, h⟩ := bd_some h
      refine kcX6_readFact fX6_readBoth_29 (hr0).1 rfl (hrec2 e16) (by omega) ?_
      refine t_l fX6_readBoth_32 rfl rfl rfl rfl ?_
      refine k9_gr fX6_readBoth_33 (hr0).1 kg_6_7 (s6_7r hr0) ?_
      refine t_s fX6_readBoth_36 rfl rfl rfl ?_
      refine t_s fX6_readBoth_38 rfl rfl rfl ?_
      obtain ⟨V17, v18, e19, h⟩ := bd_some h
      refine kcX3_write fX6_readBoth_39 (s6_7s hr0).1 rfl (q_X3_write (s6_7s hr0) e19) (by omega) ?_
      replace h := lt_some h
      refine k9_iinc fX6_readBoth_42 rfl (Nat.le_of_ble_eq_true rfl) rfl ?_
      refine k9_goto fX6_readBoth_45 rfl ?_
      cases h
      exact h0 rfl

theorem tl_X6_readBoth_7 {X : mX} {dd : Nat} (rec : Nat → Int → Int → mV → Option (mV × Int)) {n z : Nat} {G : mG} {r0 : Nat} (hr0 : is6 G r0) (hdd : 30 ≤ dd) (hrec0 : ∀ {a : Int} {V V' : mV} {v : Int}, rec 0 a 0 V = some (V', v) → Rn X dd 86 [.ref r0, .int (iI a)] n z G V n z G V' none) (hrec1 : ∀ {a : Int} {V V' : mV} {v : Int}, rec 1 a 0 V = some (V', v) → Rn X dd 87 [.ref r0, .int (iI a)] n z G V n z G V' none) (hrec2 : ∀ {a : Int} {V V' : mV} {v : Int}, rec 2 a 0 V = some (V', v) → Rn X dd 88 [.ref r0, .int (iI a)] n z G V n z G V' none) (hrec3 : ∀ {a : Int} {V V' : mV} {v : Int}, rec 3 a 0 V = some (V', v) → Rn X dd 90 [.ref r0, .int (iI a)] n z G V n z G V' none) (hrec4 : ∀ {a : Int} {V V' : mV} {v : Int}, rec 4 a 0 V = some (V', v) → Rn X dd 91 [.ref r0, .int (iI a)] n z G V n z G V' none) (hrec5 : ∀ {a : Int} {V V' : mV} {v : Int}, rec 5 a 0 V = some (V', v) → Rn X dd 92 [.ref r0, .int (iI a)] n z G V n z G V' none) (hrec6 : ∀ {a b : Int} {V V' : mV} {v : Int}, rec 6 a b V = some (V', v) → Rn X dd 93 [.ref r0, .int (iI a), .int (iI b)] n z G V n z G V' none) {x1 x2 : Int} {V V' : mV} {fu : Nat} {q : Nat × Int} {Q : Nat → Nat → mG → mV → Option Value → Prop} (k1 : q.1 = 1 → T X (dd + 1) 87 48 [some (.ref r0), some (.int (iI x1)), some (.int (iI q.2))] [] n z G V' Q) (h : lp (fun (s : Int) V => B_X6_readBoth_7 rec G r0 x1 s V) fu x2 V = some (V', q)) : T X (dd + 1) 87 7 [some (.ref r0), some (.int (iI x1)), some (.int (iI x2))] [] n z G V Q :=
  lp_go (P0 := fun s V => T X (dd + 1) 87 7 [some (.ref r0), some (.int (iI x1)), some (.int (iI s))] [] n z G V Q) (PE := fun t s V => (t = 1 → T X (dd + 1) 87 48 [some (.ref r0), some (.int (iI x1)), some (.int (iI s))] [] n z G V Q)) (fun s V V' q hb h0 h1 => tb_X6_readBoth_7 rec hr0 hdd hrec0 hrec1 hrec2 hrec3 hrec4 hrec5 hrec6  h0 (fun e => (h1 (by omega)) e) hb) fu x2 V V' q h k1

theorem q_X6_readBoth {X : mX} {dd : Nat} (rec : Nat → Int → Int → mV → Option (mV × Int)) {n z : Nat} {G : mG} {r0 : Nat} (hr0 : is6 G r0) (hdd : 30 ≤ dd) (hrec0 : ∀ {a : Int} {V V' : mV} {v : Int}, rec 0 a 0 V = some (V', v) → Rn X dd 86 [.ref r0, .int (iI a)] n z G V n z G V' none) (hrec1 : ∀ {a : Int} {V V' : mV} {v : Int}, rec 1 a 0 V = some (V', v) → Rn X dd 87 [.ref r0, .int (iI a)] n z G V n z G V' none) (hrec2 : ∀ {a : Int} {V V' : mV} {v : Int}, rec 2 a 0 V = some (V', v) → Rn X dd 88 [.ref r0, .int (iI a)] n z G V n z G V' none) (hrec3 : ∀ {a : Int} {V V' : mV} {v : Int}, rec 3 a 0 V = some (V', v) → Rn X dd 90 [.ref r0, .int (iI a)] n z G V n z G V' none) (hrec4 : ∀ {a : Int} {V V' : mV} {v : Int}, rec 4 a 0 V = some (V', v) → Rn X dd 91 [.ref r0, .int (iI a)] n z G V n z G V' none) (hrec5 : ∀ {a : Int} {V V' : mV} {v : Int}, rec 5 a 0 V = some (V', v) → Rn X dd 92 [.ref r0, .int (iI a)] n z G V n z G V' none) (hrec6 : ∀ {a b : Int} {V V' : mV} {v : Int}, rec 6 a b V = some (V', v) → Rn X dd 93 [.ref r0, .int (iI a), .int (iI b)] n z G V n z G V' none) {x1 : Int} {V V' : mV} {v : Int} (h : F_X6_readBoth rec G r0 x1 V = some (V', v)) : Rn X (dd + 1) 87 [.ref r0, .int (iI x1)] n z G V n z G V' none := by
  refine qv_toR (v := v) (L := [some (.ref r0), some (.int (iI x1)), none]) rfl ?_
  unfold F_X6_readBoth at h
  refine t_l fX6_readBoth_0 rfl rfl rfl rfl ?_
  refine t_l fX6_readBoth_1 rfl rfl rfl rfl ?_
  obtain ⟨V1, v2, e3, h⟩ := bd_some h
  refine kcX6_readFact fX6_readBoth_2 (hr0).1 rfl (hrec2 e3) (by omega) ?_
  refine t_s fX6_readBoth_5 rfl rfl rfl ?_
  refine t_l fX6_readBoth_6 rfl rfl rfl rfl ?_
  obtain ⟨V21, u22, e23, h⟩ := bd_some h
  refine tl_X6_readBoth_7 rec hr0 hdd hrec0 hrec1 hrec2 hrec3 hrec4 hrec5 hrec6  (fun e24 => ?_) e23
  refine t_ret fX6_readBoth_48 rX6_readBoth ?_
  exact qf_v h

theorem tj_X6_readFact_J126 {X : mX} {dd : Nat} (rec : Nat → Int → Int → mV → Option (mV × Int)) {n z : Nat} {G : mG} {r0 : Nat} (hr0 : is6 G r0) (hdd : 30 ≤ dd) (hrec0 : ∀ {a : Int} {V V' : mV} {v : Int}, rec 0 a 0 V = some (V', v) → Rn X dd 86 [.ref r0, .int (iI a)] n z G V n z G V' none) (hrec1 : ∀ {a : Int} {V V' : mV} {v : Int}, rec 1 a 0 V = some (V', v) → Rn X dd 87 [.ref r0, .int (iI a)] n z G V n z G V' none) (hrec2 : ∀ {a : Int} {V V' : mV} {v : Int}, rec 2 a 0 V = some (V', v) → Rn X dd 88 [.ref r0, .int (iI a)] n z G V n z G V' none) (hrec3 : ∀ {a : Int} {V V' : mV} {v : Int}, rec 3 a 0 V = some (V', v) → Rn X dd 90 [.ref r0, .int (iI a)] n z G V n z G V' none) (hrec4 : ∀ {a : Int} {V V' : mV} {v : Int}, rec 4 a 0 V = some (V', v) → Rn X dd 91 [.ref r0, .int (iI a)] n z G V n z G V' none) (hrec5 : ∀ {a : Int} {V V' : mV} {v : Int}, rec 5 a 0 V = some (V', v) → Rn X dd 92 [.ref r0, .int (iI a)] n z G V n z G V' none) (hrec6 : ∀ {a b : Int} {V V' : mV} {v : Int}, rec 6 a b V = some (V', v) → Rn X dd 93 [.ref r0, .int (iI a), .int (iI b)] n z G V n z G V' none) {x1 x2 : Int} {V V' : mV} {v : Int} (h : F_X6_readFact_J126 rec G r0 x1 x2 V = some (V', v)) : T X (dd + 1) 88 126 [some (.ref r0), some (.int (iI x1)), some (.int (iI x2))] [] n z G V (qv n z G V' v) := by
  unfold F_X6_readFact_J126 at h
  refine t_l fX6_readFact_126 rfl rfl rfl rfl ?_
  obtain ⟨V31, v32, e33, h⟩ := bd_some h
  refine kcX6_take fX6_readFact_127 (hr0).1 rfl (q_X6_take (hr0) e33) (by omega) ?_
  refine t_l fX6_readFact_130 rfl rfl rfl rfl ?_
  refine t_l fX6_readFact_131 rfl rfl rfl rfl ?_
  obtain ⟨V34, v35, e36, h⟩ := bd_some h
  refine kcX6_readSum fX6_readFact_132 (hr0).1 rfl (hrec3 e36) (by omega) ?_
  refine t_l fX6_readFact_135 rfl rfl rfl rfl ?_
  refine k9_gr fX6_readFact_136 (hr0).1 kg_6_7 (s6_7r hr0) ?_
  refine t_l fX6_readFact_139 rfl rfl rfl rfl ?_
  refine t_s fX6_readFact_140 rfl rfl rfl ?_
  obtain ⟨V37, v38, e39, h⟩ := bd_some h
  refine kcX3_write fX6_readFact_141 (s6_7s hr0).1 rfl (q_X3_write (s6_7s hr0) e39) (by omega) ?_
  refine t_ret fX6_readFact_144 rX6_readFact ?_
  exact qf_v h

theorem q_X6_readFact {X : mX} {dd : Nat} (rec : Nat → Int → Int → mV → Option (mV × Int)) {n z : Nat} {G : mG} {r0 : Nat} (hr0 : is6 G r0) (hdd : 30 ≤ dd) (hrec0 : ∀ {a : Int} {V V' : mV} {v : Int}, rec 0 a 0 V = some (V', v) → Rn X dd 86 [.ref r0, .int (iI a)] n z G V n z G V' none) (hrec1 : ∀ {a : Int} {V V' : mV} {v : Int}, rec 1 a 0 V = some (V', v) → Rn X dd 87 [.ref r0, .int (iI a)] n z G V n z G V' none) (hrec2 : ∀ {a : Int} {V V' : mV} {v : Int}, rec 2 a 0 V = some (V', v) → Rn X dd 88 [.ref r0, .int (iI a)] n z G V n z G V' none) (hrec3 : ∀ {a : Int} {V V' : mV} {v : Int}, rec 3 a 0 V = some (V', v) → Rn X dd 90 [.ref r0, .int (iI a)] n z G V n z G V' none) (hrec4 : ∀ {a : Int} {V V' : mV} {v : Int}, rec 4 a 0 V = some (V', v) → Rn X dd 91 [.ref r0, .int (iI a)] n z G V n z G V' none) (hrec5 : ∀ {a : Int} {V V' : mV} {v : Int}, rec 5 a 0 V = some (V', v) → Rn X dd 92 [.ref r0, .int (iI a)] n z G V n z G V' none) (hrec6 : ∀ {a b : Int} {V V' : mV} {v : Int}, rec 6 a b V = some (V', v) → Rn X dd 93 [.ref r0, .int (iI a), .int (iI b)] n z G V n z G V' none) {x1 : Int} {V V' : mV} {v : Int} (h : F_X6_readFact rec G r0 x1 V = some (V', v)) : Rn X (dd + 1) 88 [.ref r0, .int (iI x1)] n z G V n z G V' none := by
  refine qv_toR (v := v) (L := [some (.ref r0), some (.int (iI x1)), none]) rfl ?_
  unfold F_X6_readFact at h
  refine t_l fX6_readFact_0 rfl rfl rfl rfl ?_
  obtain ⟨V1, v2, e3, h⟩ := bd_some h
  refine kcX6_fine fX6_readFact_1 (hr0).1 rfl (q_X6_fine (hr0) e3) (by omega) ?_
  obtain ⟨g5, h⟩ := gd_some h
  refine k9_if_eq fX6_readFact_4 rfl g5 (fun c4 => ?_) (fun c4 => ?_)
  · replace h := ite_t (c4) h
    refine t_ret fX6_readFact_13 rX6_readFact ?_
    exact qf_v h
  · replace h := ite_f (c4) h
    refine t_l fX6_readFact_7 rfl rfl rfl rfl ?_
    refine t_s fX6_readFact_8 rfl rfl rfl ?_
    obtain ⟨g7, h⟩ := gd_some h
    refine k9_ic_le fX6_readFact_10 rfl g7 ⟨by decide, by decide⟩ (fun c6 => ?_) (fun c6 => ?_)
    · replace h := ite_t (c6) h
      refine t_l fX6_readFact_14 rfl rfl rfl rfl ?_
      refine t_s fX6_readFact_15 rfl rfl rfl ?_
      obtain ⟨V8, v9, e10, h⟩ := bd_some h
      refine kcX6_isWord fX6_readFact_17 (hr0).1 rfl (q_X6_isWord (hr0) e10) (by omega) ?_
      obtain ⟨g12, h⟩ := gd_some h
      refine k9_if_eq fX6_readFact_20 rfl g12 (fun c11 => ?_) (fun c11 => ?_)
      · replace h := ite_t (c11) h
        refine t_l fX6_readFact_47 rfl rfl rfl rfl ?_
        refine t_s fX6_readFact_48 rfl rfl rfl ?_
        obtain ⟨V13, v14, e15, h⟩ := bd_some h
        refine kcX6_isSign fX6_readFact_50 (hr0).1 rfl (q_X6_isSign (hr0) e15) (by omega) ?_
        obtain ⟨g17, h⟩ := gd_some h
        refine k9_if_eq fX6_readFact_53 rfl g17 (fun c16 => ?_) (fun c16 => ?_)
        · replace h := ite_t (c16) h
          refine t_l fX6_readFact_77 rfl rfl rfl rfl ?_
          refine t_s fX6_readFact_78 rfl rfl rfl ?_
          obtain ⟨V18, v19, e20, h⟩ := bd_some h
          refine kcX6_isWord fX6_readFact_80 (hr0).1 rfl (q_X6_isWord (hr0) e20) (by omega) ?_
          obtain ⟨g22, h⟩ := gd_some h
          refine k9_if_eq fX6_readFact_83 rfl g22 (fun c21 => ?_) (fun c21 => ?_)
          · replace h := ite_t (c21) h
            refine t_l fX6_readFact_102 rfl rfl rfl rfl ?_
            refine t_l fX6_readFact_103 rfl rfl rfl rfl ?_
            obtain ⟨V23, v24, e25, h⟩ := bd_some h
            refine kcX6_readSum fX6_readFact_104 (hr0).1 rfl (hrec3 e25) (by omega) ?_
            refine t_l fX6_readFact_107 rfl rfl rfl rfl ?_
            obtain ⟨V26, v27, e28, h⟩ := bd_some h
            refine kcX6_comparison fX6_readFact_108 (hr0).1 rfl (q_X6_comparison (hr0) e28) (by omega) ?_
            refine t_l fX6_readFact_111 rfl rfl rfl rfl ?_
            refine t_l fX6_readFact_112 rfl rfl rfl rfl ?_
            refine t_s fX6_readFact_113 rfl rfl rfl ?_
            obtain ⟨g30, h⟩ := gd_some h
            refine k9_ic_ne fX6_readFact_114 rfl g30 ⟨by decide, by decide⟩ (fun c29 => ?_) (fun c29 => ?_)
            · replace h := ite_f (c29) h
              exact tj_X6_readFact_J126 rec hr0 hdd hrec0 hrec1 hrec2 hrec3 hrec4 hrec5 hrec6   h
            · replace h := ite_t (Classical.not_not.mp c29) h
              refine t_l fX6_readFact_117 rfl rfl rfl rfl ?_
              refine t_s fX6_readFact_118 rfl rfl rfl ?_
              refine t_l fX6_readFact_119 rfl rfl rfl rfl ?_
              obtain ⟨V40, v41, e42, h⟩ := bd_some h
              refine kcX6_here fX6_readFact_120 (hr0).1 rfl (q_X6_here (hr0) e42) (by omega) ?_
              obtain ⟨V43, v44, e45, h⟩ := bd_some h
              refine kcX6_fail fX6_readFact_123 (hr0).1 rfl (q_X6_fail (hr0) e45) (by omega) ?_
              exact tj_X6_readFact_J126 rec hr0 hdd hrec0 hrec1 hrec2 hrec3 hrec4 hrec5 hrec6   h
          · replace h := ite_f (c21) h
            refine t_l fX6_readFact_86 rfl rfl rfl rfl ?_
            obtain ⟨V46, v47, e48, h⟩ := bd_some h
            refine kcX6_take fX6_readFact_87 (hr0).1 rfl (q_X6_take (hr0) e48) (by omega) ?_
            refine t_l fX6_readFact_90 rfl rfl rfl rfl ?_
            refine k9_gr fX6_readFact_91 (hr0).1 kg_6_7 (s6_7r hr0) ?_
            refine t_s fX6_readFact_94 rfl rfl rfl ?_
            refine t_s fX6_readFact_95 rfl rfl rfl ?_
            obtain ⟨V49, v50, e51, h⟩ := bd_some h
            refine kcX3_write fX6_readFact_96 (s6_7s hr0).1 rfl (q_X3_write (s6_7s hr0) e51) (by omega) ?_
            refine k9_goto fX6_readFact_99 rfl ?_
            refine t_ret fX6_readFact_144 rX6_readFact ?_
            exact qf_v h
        · replace h := ite_f (c16) h
          refine t_l fX6_readFact_56 rfl rfl rfl rfl ?_
          refine t_l fX6_readFact_57 rfl rfl rfl rfl ?_
          obtain ⟨V52, v53, e54, h⟩ := bd_some h
          refine kcX6_takeOpening fX6_readFact_58 (hr0).1 rfl (q_X6_takeOpening (hr0) e54) (by omega) ?_
          refine t_l fX6_readFact_61 rfl rfl rfl rfl ?_
          refine t_l fX6_readFact_62 rfl rfl rfl rfl ?_
          refine t_s fX6_readFact_63 rfl rfl rfl ?_
          refine k9_iadd fX6_readFact_64 ?_
          obtain ⟨V55, v56, e57, h⟩ := bd_some h
          refine kcX6_readTest fX6_readFact_65 (hr0).1 rfl (hrec0 e57) (by omega) ?_
          refine t_l fX6_readFact_68 rfl rfl rfl rfl ?_
          refine t_s fX6_readFact_69 rfl rfl rfl ?_
          obtain ⟨V58, v59, e60, h⟩ := bd_some h
          refine kcX6_takeSign fX6_readFact_71 (hr0).1 rfl (q_X6_takeSign (hr0) e60) (by omega) ?_
          refine k9_goto fX6_readFact_74 rfl ?_
          refine t_ret fX6_readFact_144 rX6_readFact ?_
          exact qf_v h
      · replace h := ite_f (c11) h
        refine t_l fX6_readFact_23 rfl rfl rfl rfl ?_
        refine t_l fX6_readFact_24 rfl rfl rfl rfl ?_
        obtain ⟨V61, v62, e63, h⟩ := bd_some h
        refine kcX6_takeOpening fX6_readFact_25 (hr0).1 rfl (q_X6_takeOpening (hr0) e63) (by omega) ?_
        refine t_l fX6_readFact_28 rfl rfl rfl rfl ?_
        refine t_l fX6_readFact_29 rfl rfl rfl rfl ?_
        refine t_s fX6_readFact_30 rfl rfl rfl ?_
        refine k9_iadd fX6_readFact_31 ?_
        obtain ⟨V64, v65, e66, h⟩ := bd_some h
        refine kcX6_readFact fX6_readFact_32 (hr0).1 rfl (hrec2 e66) (by omega) ?_
        refine t_l fX6_readFact_35 rfl rfl rfl rfl ?_
        refine k9_gr fX6_readFact_36 (hr0).1 kg_6_7 (s6_7r hr0) ?_
        refine t_s fX6_readFact_39 rfl rfl rfl ?_
        refine t_s fX6_readFact_40 rfl rfl rfl ?_
        obtain ⟨V67, v68, e69, h⟩ := bd_some h
        refine kcX3_write fX6_readFact_41 (s6_7s hr0).1 rfl (q_X3_write (s6_7s hr0) e69) (by omega) ?_
        refine k9_goto fX6_readFact_44 rfl ?_
        refine t_ret fX6_readFact_144 rX6_readFact ?_
        exact qf_v h
    · replace h := ite_f (c6) h
      refine t_ret fX6_readFact_13 rX6_readFact ?_
      exact qf_v h

theorem tj_X6_readSum_J46_7 {X : mX} {dd : Nat} (rec : Nat → Int → Int → mV → Option (mV × Int)) {n z : Nat} {G : mG} {r0 : Nat} (hr0 : is6 G r0) (hdd : 30 ≤ dd) (hrec0 : ∀ {a : Int} {V V' : mV} {v : Int}, rec 0 a 0 V = some (V', v) → Rn X dd 86 [.ref r0, .int (iI a)] n z G V n z G V' none) (hrec1 : ∀ {a : Int} {V V' : mV} {v : Int}, rec 1 a 0 V = some (V', v) → Rn X dd 87 [.ref r0, .int (iI a)] n z G V n z G V' none) (hrec2 : ∀ {a : Int} {V V' : mV} {v : Int}, rec 2 a 0 V = some (V', v) → Rn X dd 88 [.ref r0, .int (iI a)] n z G V n z G V' none) (hrec3 : ∀ {a : Int} {V V' : mV} {v : Int}, rec 3 a 0 V = some (V', v) → Rn X dd 90 [.ref r0, .int (iI a)] n z G V n z G V' none) (hrec4 : ∀ {a : Int} {V V' : mV} {v : Int}, rec 4 a 0 V = some (V', v) → Rn X dd 91 [.ref r0, .int (iI a)] n z G V n z G V' none) (hrec5 : ∀ {a : Int} {V V' : mV} {v : Int}, rec 5 a 0 V = some (V', v) → Rn X dd 92 [.ref r0, .int (iI a)] n z G V n z G V' none) (hrec6 : ∀ {a b : Int} {V V' : mV} {v : Int}, rec 6 a b V = some (V', v) → Rn X dd 93 [.ref r0, .int (iI a), .int (iI b)] n z G V n z G V' none) {x1 x2 s0 : Int} {j3 : Option Value} {V V' : mV} {q : Nat × Int} {Q : Nat → Nat → mG → mV → Option Value → Prop} (h0 : q.1 = 0 → ∀ j3 : Option Value, T X (dd + 1) 90 7 [some (.ref r0), some (.int (iI x1)), some (.int (iI q.2)), j3] [] n z G V' Q) (h1 : q.1 = 1 → ∀ j3 : Option Value, T X (dd + 1) 90 71 [some (.ref r0), some (.int (iI x1)), some (.int (iI q.2)), j3] [] n z G V' Q) (h : F_X6_readSum_J46_7 rec G r0 x1 x2 s0 V = some (V', q)) : T X (dd + 1) 90 46 [some (.ref r0), some (.int (iI x1)), some (.int (iI x2)), j3] [.int (iI s0)] n z G V Q := by
  unfold F_X6_readSum_J46_7 at h
  refine t_l fX6_readSum_46 rfl rfl rfl rfl ?_
  refine t_l fX6_readSum_47 rfl rfl rfl rfl ?_
  obtain ⟨V16, v17, e18, h⟩ := bd_some h
  refine kcX6_take fX6_readSum_48 (hr0).1 rfl (q_X6_take (hr0) e18) (by omega) ?_
  refine t_l fX6_readSum_51 rfl rfl rfl rfl ?_
  refine t_l fX6_readSum_52 rfl rfl rfl rfl ?_
  obtain ⟨V19, v20, e21, h⟩ := bd_some h
  refine kcX6_readProduct fX6_readSum_53 (hr0).1 rfl (hrec4 e21) (by omega) ?_
  refine t_l fX6_readSum_56 rfl rfl rfl rfl ?_
  refine k9_gr fX6_readSum_57 (hr0).1 kg_6_7 (s6_7r hr0) ?_
  refine t_l fX6_readSum_60 rfl rfl rfl rfl ?_
  refine t_s fX6_readSum_61 rfl rfl rfl ?_
  obtain ⟨V22, v23, e24, h⟩ := bd_some h
  refine kcX3_write fX6_readSum_62 (s6_7s hr0).1 rfl (q_X3_write (s6_7s hr0) e24) (by omega) ?_
  replace h := lt_some h
  refine k9_iinc fX6_readSum_65 rfl (Nat.le_of_ble_eq_true rfl) rfl ?_
  refine k9_goto fX6_readSum_68 rfl ?_
  cases h
  exact h0 rfl _

theorem tj_X6_readSum_J32_7 {X : mX} {dd : Nat} (rec : Nat → Int → Int → mV → Option (mV × Int)) {n z : Nat} {G : mG} {r0 : Nat} (hr0 : is6 G r0) (hdd : 30 ≤ dd) (hrec0 : ∀ {a : Int} {V V' : mV} {v : Int}, rec 0 a 0 V = some (V', v) → Rn X dd 86 [.ref r0, .int (iI a)] n z G V n z G V' none) (hrec1 : ∀ {a : Int} {V V' : mV} {v : Int}, rec 1 a 0 V = some (V', v) → Rn X dd 87 [.ref r0, .int (iI a)] n z G V n z G V' none) (hrec2 : ∀ {a : Int} {V V' : mV} {v : Int}, rec 2 a 0 V = some (V', v) → Rn X dd 88 [.ref r0, .int (iI a)] n z G V n z G V' none) (hrec3 : ∀ {a : Int} {V V' : mV} {v : Int}, rec 3 a 0 V = some (V', v) → Rn X dd 90 [.ref r0, .int (iI a)] n z G V n z G V' none) (hrec4 : ∀ {a : Int} {V V' : mV} {v : Int}, rec 4 a 0 V = some (V', v) → Rn X dd 91 [.ref r0, .int (iI a)] n z G V n z G V' none) (hrec5 : ∀ {a : Int} {V V' : mV} {v : Int}, rec 5 a 0 V = some (V', v) → Rn X dd 92 [.ref r0, .int (iI a)] n z G V n z G V' none) (hrec6 : ∀ {a b : Int} {V V' : mV} {v : Int}, rec 6 a b V = some (V', v) → Rn X dd 93 [.ref r0, .int (iI a), .int (iI b)] n z G V n z G V' none) {x1 x2 : Int} {j3 : Option Value} {V V' : mV} {q : Nat × Int} {Q : Nat → Nat → mG → mV → Option Value → Prop} (h0 : q.1 = 0 → ∀ j3 : Option Value, T X (dd + 1) 90 7 [some (.ref r0), some (.int (iI x1)), some (.int (iI q.2)), j3] [] n z G V' Q) (h1 : q.1 = 1 → ∀ j3 : Option Value, T X (dd + 1) 90 71 [some (.ref r0), some (.int (iI x1)), some (.int (iI q.2)), j3] [] n z G V' Q) (h : F_X6_readSum_J32_7 rec G r0 x1 x2 V = some (V', q)) : T X (dd + 1) 90 32 [some (.ref r0), some (.int (iI x1)), some (.int (iI x2)), j3] [] n z G V Q := by
  unfold F_X6_readSum_J32_7 at h
  refine t_l fX6_readSum_32 rfl rfl rfl rfl ?_
  refine t_s fX6_readSum_33 rfl rfl rfl ?_
  obtain ⟨V11, v12, e13, h⟩ := bd_some h
  refine kcX6_isSign fX6_readSum_35 (hr0).1 rfl (q_X6_isSign (hr0) e13) (by omega) ?_
  obtain ⟨g15, h⟩ := gd_some h
  refine k9_if_eq fX6_readSum_38 rfl g15 (fun c14 => ?_) (fun c14 => ?_)
  · replace h := ite_t (c14) h
    refine t_s fX6_readSum_45 rfl rfl rfl ?_
    exact tj_X6_readSum_J46_7 rec hr0 hdd hrec0 hrec1 hrec2 hrec3 hrec4 hrec5 hrec6  h0 h1 h
  · replace h := ite_f (c14) h
    refine t_s fX6_readSum_41 rfl rfl rfl ?_
    refine k9_goto fX6_readSum_42 rfl ?_
    exact tj_X6_readSum_J46_7 rec hr0 hdd hrec0 hrec1 hrec2 hrec3 hrec4 hrec5 hrec6  h0 h1 h

theorem tb_X6_readSum_7 {X : mX} {dd : Nat} (rec : Nat → Int → Int → mV → Option (mV × Int)) {n z : Nat} {G : mG} {r0 : Nat} (hr0 : is6 G r0) (hdd : 30 ≤ dd) (hrec0 : ∀ {a : Int} {V V' : mV} {v : Int}, rec 0 a 0 V = some (V', v) → Rn X dd 86 [.ref r0, .int (iI a)] n z G V n z G V' none) (hrec1 : ∀ {a : Int} {V V' : mV} {v : Int}, rec 1 a 0 V = some (V', v) → Rn X dd 87 [.ref r0, .int (iI a)] n z G V n z G V' none) (hrec2 : ∀ {a : Int} {V V' : mV} {v : Int}, rec 2 a 0 V = some (V', v) → Rn X dd 88 [.ref r0, .int (iI a)] n z G V n z G V' none) (hrec3 : ∀ {a : Int} {V V' : mV} {v : Int}, rec 3 a 0 V = some (V', v) → Rn X dd 90 [.ref r0, .int (iI a)] n z G V n z G V' none) (hrec4 : ∀ {a : Int} {V V' : mV} {v : Int}, rec 4 a 0 V = some (V', v) → Rn X dd 91 [.ref r0, .int (iI a)] n z G V n z G V' none) (hrec5 : ∀ {a : Int} {V V' : mV} {v : Int}, rec 5 a 0 V = some (V', v) → Rn X dd 92 [.ref r0, .int (iI a)] n z G V n z G V' none) (hrec6 : ∀ {a b : Int} {V V' : mV} {v : Int}, rec 6 a b V = some (V', v) → Rn X dd 93 [.ref r0, .int (iI a), .int (iI b)] n z G V n z G V' none) {x1 x2 : Int} {j3 : Option Value} {V V' : mV} {q : Nat × Int} {Q : Nat → Nat → mG → mV → Option Value → Prop} (h0 : q.1 = 0 → ∀ j3 : Option Value, T X (dd + 1) 90 7 [some (.ref r0), some (.int (iI x1)), some (.int (iI q.2)), j3] [] n z G V' Q) (h1 : q.1 = 1 → ∀ j3 : Option Value, T X (dd + 1) 90 71 [some (.ref r0), some (.int (iI x1)), some (.int (iI q.2)), j3] [] n z G V' Q) (h : B_X6_readSum_7 rec G r0 x1 x2 V = some (V', q)) : T X (dd + 1) 90 7 [some (.ref r0), some (.int (iI x1)), some (.int (iI x2)), j3] [] n z G V Q := by
  unfold B_X6_readSum_7 at h
  refine t_l fX6_readSum_7 rfl rfl rfl rfl ?_
  refine t_s fX6_readSum_8 rfl rfl rfl ?_
  obtain ⟨g5, h⟩ := gd_some h
  refine k9_ic_ge fX6_readSum_11 rfl g5 ⟨by decide, by decide⟩ (fun c4 => ?_) (fun c4 => ?_)
  · replace h := ite_t (c4) h
    cases h
    exact h1 rfl _
  · replace h := ite_f (c4) h
    refine t_l fX6_readSum_14 rfl rfl rfl rfl ?_
    refine t_s fX6_readSum_15 rfl rfl rfl ?_
    obtain ⟨V6, v7, e8, h⟩ := bd_some h
    refine kcX6_isSign fX6_readSum_17 (hr0).1 rfl (q_X6_isSign (hr0) e8) (by omega) ?_
    obtain ⟨g10, h⟩ := gd_some h
    refine k9_if_ne fX6_readSum_20 rfl g10 (fun c9 => ?_) (fun c9 => ?_)
    · replace h := ite_f (c9) h
      exact tj_X6_readSum_J32_7 rec hr0 hdd hrec0 hrec1 hrec2 hrec3 hrec4 hrec5 hrec6  h0 h1 h
    · replace h := ite_t (Classical.not_not.mp c9) h
      refine t_l fX6_readSum_23 rfl rfl rfl rfl ?_
      refine t_s fX6_readSum_24 rfl rfl rfl ?_
      obtain ⟨V26, v27, e28, h⟩ := bd_some h
      refine kcX6_isSign fX6_readSum_26 (hr0).1 rfl (q_X6_isSign (hr0) e28) (by omega) ?_
      obtain ⟨g30, h⟩ := gd_some h
      refine k9_if_eq fX6_readSum_29 rfl g30 (fun c29 => ?_) (fun c29 => ?_)
      · replace h := ite_t (c29) h
        cases h
        exact h1 rfl _
      · replace h := ite_f (c29) h
        exact tj_X6_readSum_J32_7 rec hr0 hdd hrec0 hrec1 hrec2 hrec3 hrec4 hrec5 hrec6  h0 h1 h

theorem tl_X6_readSum_7 {X : mX} {dd : Nat} (rec : Nat → Int → Int → mV → Option (mV × Int)) {n z : Nat} {G : mG} {r0 : Nat} (hr0 : is6 G r0) (hdd : 30 ≤ dd) (hrec0 : ∀ {a : Int} {V V' : mV} {v : Int}, rec 0 a 0 V = some (V', v) → Rn X dd 86 [.ref r0, .int (iI a)] n z G V n z G V' none) (hrec1 : ∀ {a : Int} {V V' : mV} {v : Int}, rec 1 a 0 V = some (V', v) → Rn X dd 87 [.ref r0, .int (iI a)] n z G V n z G V' none) (hrec2 : ∀ {a : Int} {V V' : mV} {v : Int}, rec 2 a 0 V = some (V', v) → Rn X dd 88 [.ref r0, .int (iI a)] n z G V n z G V' none) (hrec3 : ∀ {a : Int} {V V' : mV} {v : Int}, rec 3 a 0 V = some (V', v) → Rn X dd 90 [.ref r0, .int (iI a)] n z G V n z G V' none) (hrec4 : ∀ {a : Int} {V V' : mV} {v : Int}, rec 4 a 0 V = some (V', v) → Rn X dd 91 [.ref r0, .int (iI a)] n z G V n z G V' none) (hrec5 : ∀ {a : Int} {V V' : mV} {v : Int}, rec 5 a 0 V = some (V', v) → Rn X dd 92 [.ref r0, .int (iI a)] n z G V n z G V' none) (hrec6 : ∀ {a b : Int} {V V' : mV} {v : Int}, rec 6 a b V = some (V', v) → Rn X dd 93 [.ref r0, .int (iI a), .int (iI b)] n z G V n z G V' none) {x1 x2 : Int} {j3 : Option Value} {V V' : mV} {fu : Nat} {q : Nat × Int} {Q : Nat → Nat → mG → mV → Option Value → Prop} (k1 : q.1 = 1 → ∀ j3 : Option Value, T X (dd + 1) 90 71 [some (.ref r0), some (.int (iI x1)), some (.int (iI q.2)), j3] [] n z G V' Q) (h : lp (fun (s : Int) V => B_X6_readSum_7 rec G r0 x1 s V) fu x2 V = some (V', q)) : T X (dd + 1) 90 7 [some (.ref r0), some (.int (iI x1)), some (.int (iI x2)), j3] [] n z G V Q :=
  lp_go (P0 := fun s V => ∀ j3 : Option Value, T X (dd + 1) 90 7 [some (.ref r0), some (.int (iI x1)), some (.int (iI s)), j3] [] n z G V Q) (PE := fun t s V => (t = 1 → ∀ j3 : Option Value, T X (dd + 1) 90 71 [some (.ref r0), some (.int (iI x1)), some (.int (iI s)), j3] [] n z G V Q)) (fun s V V' q hb h0 h1 => fun _ => tb_X6_readSum_7 rec hr0 hdd hrec0 hrec1 hrec2 hrec3 hrec4 hrec5 hrec6  h0 (fun e => (h1 (by omega)) e) hb) fu x2 V V' q h k1 _

theorem q_X6_readSum {X : mX} {dd : Nat} (rec : Nat → Int → Int → mV → Option (mV × Int)) {n z : Nat} {G : mG} {r0 : Nat} (hr0 : is6 G r0) (hdd : 30 ≤ dd) (hrec0 : ∀ {a : Int} {V V' : mV} {v : Int}, rec 0 a 0 V = some (V', v) → Rn X dd 86 [.ref r0, .int (iI a)] n z G V n z G V' none) (hrec1 : ∀ {a : Int} {V V' : mV} {v : Int}, rec 1 a 0 V = some (V', v) → Rn X dd 87 [.ref r0, .int (iI a)] n z G V n z G V' none) (hrec2 : ∀ {a : Int} {V V' : mV} {v : Int}, rec 2 a 0 V = some (V', v) → Rn X dd 88 [.ref r0, .int (iI a)] n z G V n z G V' none) (hrec3 : ∀ {a : Int} {V V' : mV} {v : Int}, rec 3 a 0 V = some (V', v) → Rn X dd 90 [.ref r0, .int (iI a)] n z G V n z G V' none) (hrec4 : ∀ {a : Int} {V V' : mV} {v : Int}, rec 4 a 0 V = some (V', v) → Rn X dd 91 [.ref r0, .int (iI a)] n z G V n z G V' none) (hrec5 : ∀ {a : Int} {V V' : mV} {v : Int}, rec 5 a 0 V = some (V', v) → Rn X dd 92 [.ref r0, .int (iI a)] n z G V n z G V' none) (hrec6 : ∀ {a b : Int} {V V' : mV} {v : Int}, rec 6 a b V = some (V', v) → Rn X dd 93 [.ref r0, .int (iI a), .int (iI b)] n z G V n z G V' none) {x1 : Int} {V V' : mV} {v : Int} (h : F_X6_readSum rec G r0 x1 V = some (V', v)) : Rn X (dd + 1) 90 [.ref r0, .int (iI x1)] n z G V n z G V' none := by
  refine qv_toR (v := v) (L := [some (.ref r0), some (.int (iI x1)), none, none]) rfl ?_
  unfold F_X6_readSum at h
  refine t_l fX6_readSum_0 rfl rfl rfl rfl ?_
  refine t_l fX6_readSum_1 rfl rfl rfl rfl ?_
  obtain ⟨V1, v2, e3, h⟩ := bd_some h
  refine kcX6_readProduct fX6_readSum_2 (hr0).1 rfl (hrec4 e3) (by omega) ?_
  refine t_s fX6_readSum_5 rfl rfl rfl ?_
  refine t_l fX6_readSum_6 rfl rfl rfl rfl ?_
  obtain ⟨V31, u32, e33, h⟩ := bd_some h
  refine tl_X6_readSum_7 rec hr0 hdd hrec0 hrec1 hrec2 hrec3 hrec4 hrec5 hrec6  (fun e34 j3 => ?_) e33
  refine t_ret fX6_readSum_71 rX6_readSum ?_
  exact qf_v h

theorem tj_X6_readProduct_J48_7 {X : mX} {dd : Nat} (rec : Nat → Int → Int → mV → Option (mV × Int)) {n z : Nat} {G : mG} {r0 : Nat} (hr0 : is6 G r0) (hdd : 30 ≤ dd) (hrec0 : ∀ {a : Int} {V V' : mV} {v : Int}, rec 0 a 0 V = some (V', v) → Rn X dd 86 [.ref r0, .int (iI a)] n z G V n z G V' none) (hrec1 : ∀ {a : Int} {V V' : mV} {v : Int}, rec 1 a 0 V = some (V', v) → Rn X dd 87 [.ref r0, .int (iI a)] n z G V n z G V' none) (hrec2 : ∀ {a : Int} {V V' : mV} {v : Int}, rec 2 a 0 V = some (V', v) → Rn X dd 88 [.ref r0, .int (iI a)] n z G V n z G V' none) (hrec3 : ∀ {a : Int} {V V' : mV} {v : Int}, rec 3 a 0 V = some (V', v) → Rn X dd 90 [.ref r0, .int (iI a)] n z G V n z G V' none) (hrec4 : ∀ {a : Int} {V V' : mV} {v : Int}, rec 4 a 0 V = some (V', v) → Rn X dd 91 [.ref r0, .int (iI a)] n z G V n z G V' none) (hrec5 : ∀ {a : Int} {V V' : mV} {v : Int}, rec 5 a 0 V = some (V', v) → Rn X dd 92 [.ref r0, .int (iI a)] n z G V n z G V' none) (hrec6 : ∀ {a b : Int} {V V' : mV} {v : Int}, rec 6 a b V = some (V', v) → Rn X dd 93 [.ref r0, .int (iI a), .int (iI b)] n z G V n z G V' none) {x1 x2 s0 : Int} {j3 : Option Value} {V V' : mV} {q : Nat × Int} {Q : Nat → Nat → mG → mV → Option Value → Prop} (h0 : q.1 = 0 → ∀ j3 : Option Value, T X (dd + 1) 91 7 [some (.ref r0), some (.int (iI x1)), some (.int (iI q.2)), j3] [] n z G V' Q) (h1 : q.1 = 1 → ∀ j3 : Option Value, T X (dd + 1) 91 73 [some (.ref r0), some (.int (iI x1)), some (.int (iI q.2)), j3] [] n z G V' Q) (h : F_X6_readProduct_J48_7 rec G r0 x1 x2 s0 V = some (V', q)) : T X (dd + 1) 91 48 [some (.ref r0), some (.int (iI x1)), some (.int (iI x2)), j3] [.int (iI s0)] n z G V Q := by
  unfold F_X6_readProduct_J48_7 at h
  refine t_l fX6_readProduct_48 rfl rfl rfl rfl ?_
  refine t_l fX6_readProduct_49 rfl rfl rfl rfl ?_
  obtain ⟨V16, v17, e18, h⟩ := bd_some h
  refine kcX6_take fX6_readProduct_50 (hr0).1 rfl (q_X6_take (hr0) e18) (by omega) ?_
  refine t_l fX6_readProduct_53 rfl rfl rfl rfl ?_
  refine t_l fX6_readProduct_54 rfl rfl rfl rfl ?_
  obtain ⟨V19, v20, e21, h⟩ := bd_some h
  refine kcX6_readPart fX6_readProduct_55 (hr0).1 rfl (hrec5 e21) (by omega) ?_
  refine t_l fX6_readProduct_58 rfl rfl rfl rfl ?_
  refine k9_gr fX6_readProduct_59 (hr0).1 kg_6_7 (s6_7r hr0) ?_
  refine t_l fX6_readProduct_62 rfl rfl rfl rfl ?_
  refine t_s fX6_readProduct_63 rfl rfl rfl ?_
  obtain ⟨V22, v23, e24, h⟩ := bd_some h
  refine kcX3_write fX6_readProduct_64 (s6_7s hr0).1 rfl (q_X3_write (s6_7s hr0) e24) (by omega) ?_
  replace h := lt_some h
  refine k9_iinc fX6_readProduct_67 rfl (Nat.le_of_ble_eq_true rfl) rfl ?_
  refine k9_goto fX6_readProduct_70 rfl ?_
  cases h
  exact h0 rfl _

theorem tj_X6_readProduct_J32_7 {X : mX} {dd : Nat} (rec : Nat → Int → Int → mV → Option (mV × Int)) {n z : Nat} {G : mG} {r0 : Nat} (hr0 : is6 G r0) (hdd : 30 ≤ dd) (hrec0 : ∀ {a : Int} {V V' : mV} {v : Int}, rec 0 a 0 V = some (V', v) → Rn X dd 86 [.ref r0, .int (iI a)] n z G V n z G V' none) (hrec1 : ∀ {a : Int} {V V' : mV} {v : Int}, rec 1 a 0 V = some (V', v) → Rn X dd 87 [.ref r0, .int (iI a)] n z G V n z G V' none) (hrec2 : ∀ {a : Int} {V V' : mV} {v : Int}, rec 2 a 0 V = some (V', v) → Rn X dd 88 [.ref r0, .int (iI a)] n z G V n z G V' none) (hrec3 : ∀ {a : Int} {V V' : mV} {v : Int}, rec 3 a 0 V = some (V', v) → Rn X dd 90 [.ref r0, .int (iI a)] n z G V n z G V' none) (hrec4 : ∀ {a : Int} {V V' : mV} {v : Int}, rec 4 a 0 V = some (V', v) → Rn X dd 91 [.ref r0, .int (iI a)] n z G V n z G V' none) (hrec5 : ∀ {a : Int} {V V' : mV} {v : Int}, rec 5 a 0 V = some (V', v) → Rn X dd 92 [.ref r0, .int (iI a)] n z G V n z G V' none) (hrec6 : ∀ {a b : Int} {V V' : mV} {v : Int}, rec 6 a b V = some (V', v) → Rn X dd 93 [.ref r0, .int (iI a), .int (iI b)] n z G V n z G V' none) {x1 x2 : Int} {j3 : Option Value} {V V' : mV} {q : Nat × Int} {Q : Nat → Nat → mG → mV → Option Value → Prop} (h0 : q.1 = 0 → ∀ j3 : Option Value, T X (dd + 1) 91 7 [some (.ref r0), some (.int (iI x1)), some (.int (iI q.2)), j3] [] n z G V' Q) (h1 : q.1 = 1 → ∀ j3 : Option Value, T X (dd + 1) 91 73 [some (.ref r0), some (.int (iI x1)), some (.int (iI q.2)), j3] [] n z G V' Q) (h : F_X6_readProduct_J32_7 rec G r0 x1 x2 V = some (V', q)) : T X (dd + 1) 91 32 [some (.ref r0), some (.int (iI x1)), some (.int (iI x2)), j3] [] n z G V Q := by
  unfold F_X6_readProduct_J32_7 at h
  refine t_l fX6_readProduct_32 rfl rfl rfl rfl ?_
  refine t_s fX6_readProduct_33 rfl rfl rfl ?_
  obtain ⟨V11, v12, e13, h⟩ := bd_some h
  refine kcX6_isSign fX6_readProduct_35 (hr0).1 rfl (q_X6_isSign (hr0) e13) (by omega) ?_
  obtain ⟨g15, h⟩ := gd_some h
  refine k9_if_eq fX6_readProduct_38 rfl g15 (fun c14 => ?_) (fun c14 => ?_)
  · replace h := ite_t (c14) h
    refine t_s fX6_readProduct_46 rfl rfl rfl ?_
    exact tj_X6_readProduct_J48_7 rec hr0 hdd hrec0 hrec1 hrec2 hrec3 hrec4 hrec5 hrec6  h0 h1 h
  · replace h := ite_f (c14) h
    refine t_s fX6_readProduct_41 rfl rfl rfl ?_
    refine k9_goto fX6_readProduct_43 rfl ?_
    exact tj_X6_readProduct_J48_7 rec hr0 hdd hrec0 hrec1 hrec2 hrec3 hrec4 hrec5 hrec6  h0 h1 h

theorem tb_X6_readProduct_7 {X : mX} {dd : Nat} (rec : Nat → Int → Int → mV → Option (mV × Int)) {n z : Nat} {G : mG} {r0 : Nat} (hr0 : is6 G r0) (hdd : 30 ≤ dd) (hrec0 : ∀ {a : Int} {V V' : mV} {v : Int}, rec 0 a 0 V = some (V', v) → Rn X dd 86 [.ref r0, .int (iI a)] n z G V n z G V' none) (hrec1 : ∀ {a : Int} {V V' : mV} {v : Int}, rec 1 a 0 V = some (V', v) → Rn X dd 87 [.ref r0, .int (iI a)] n z G V n z G V' none) (hrec2 : ∀ {a : Int} {V V' : mV} {v : Int}, rec 2 a 0 V = some (V', v) → Rn X dd 88 [.ref r0, .int (iI a)] n z G V n z G V' none) (hrec3 : ∀ {a : Int} {V V' : mV} {v : Int}, rec 3 a 0 V = some (V', v) → Rn X dd 90 [.ref r0, .int (iI a)] n z G V n z G V' none) (hrec4 : ∀ {a : Int} {V V' : mV} {v : Int}, rec 4 a 0 V = some (V', v) → Rn X dd 91 [.ref r0, .int (iI a)] n z G V n z G V' none) (hrec5 : ∀ {a : Int} {V V' : mV} {v : Int}, rec 5 a 0 V = some (V', v) → Rn X dd 92 [.ref r0, .int (iI a)] n z G V n z G V' none) (hrec6 : ∀ {a b : Int} {V V' : mV} {v : Int}, rec 6 a b V = some (V', v) → Rn X dd 93 [.ref r0, .int (iI a), .int (iI b)] n z G V n z G V' none) {x1 x2 : Int} {j3 : Option Value} {V V' : mV} {q : Nat × Int} {Q : Nat → Nat → mG → mV → Option Value → Prop} (h0 : q.1 = 0 → ∀ j3 : Option Value, T X (dd + 1) 91 7 [some (.ref r0), some (.int (iI x1)), some (.int (iI q.2)), j3] [] n z G V' Q) (h1 : q.1 = 1 → ∀ j3 : Option Value, T X (dd + 1) 91 73 [some (.ref r0), some (.int (iI x1)), some (.int (iI q.2)), j3] [] n z G V' Q) (h : B_X6_readProduct_7 rec G r0 x1 x2 V = some (V', q)) : T X (dd + 1) 91 7 [some (.ref r0), some (.int (iI x1)), some (.int (iI x2)), j3] [] n z G V Q := by
  unfold B_X6_readProduct_7 at h
  refine t_l fX6_readProduct_7 rfl rfl rfl rfl ?_
  refine t_s fX6_readProduct_8 rfl rfl rfl ?_
  obtain ⟨g5, h⟩ := gd_some h
  refine k9_ic_ge fX6_readProduct_11 rfl g5 ⟨by decide, by decide⟩ (fun c4 => ?_) (fun c4 => ?_)
  · replace h := ite_t (c4) h
    cases h
    exact h1 rfl _
  · replace h := ite_f (c4) h
    refine t_l fX6_readProduct_14 rfl rfl rfl rfl ?_
    refine t_s fX6_readProduct_15 rfl rfl rfl ?_
    obtain ⟨V6, v7, e8, h⟩ := bd_some h
    refine kcX6_isSign fX6_readProduct_17 (hr0).1 rfl (q_X6_isSign (hr0) e8) (by omega) ?_
    obtain ⟨g10, h⟩ := gd_some h
    refine k9_if_ne fX6_readProduct_20 rfl g10 (fun c9 => ?_) (fun c9 => ?_)
    · replace h := ite_f (c9) h
      exact tj_X6_readProduct_J32_7 rec hr0 hdd hrec0 hrec1 hrec2 hrec3 hrec4 hrec5 hrec6  h0 h1 h
    · replace h := ite_t (Classical.not_not.mp c9) h
      refine t_l fX6_readProduct_23 rfl rfl rfl rfl ?_
      refine t_s fX6_readProduct_24 rfl rfl rfl ?_
      obtain ⟨V26, v27, e28, h⟩ := bd_some h
      refine kcX6_isSign fX6_readProduct_26 (hr0).1 rfl (q_X6_isSign (hr0) e28) (by omega) ?_
      obtain ⟨g30, h⟩ := gd_some h
      refine k9_if_eq fX6_readProduct_29 rfl g30 (fun c29 => ?_) (fun c29 => ?_)
      · replace h := ite_t (c29) h
        cases h
        exact h1 rfl _
      · replace h := ite_f (c29) h
        exact tj_X6_readProduct_J32_7 rec hr0 hdd hrec0 hrec1 hrec2 hrec3 hrec4 hrec5 hrec6  h0 h1 h

theorem tl_X6_readProduct_7 {X : mX} {dd : Nat} (rec : Nat → Int → Int → mV → Option (mV × Int)) {n z : Nat} {G : mG} {r0 : Nat} (hr0 : is6 G r0) (hdd : 30 ≤ dd) (hrec0 : ∀ {a : Int} {V V' : mV} {v : Int}, rec 0 a 0 V = some (V', v) → Rn X dd 86 [.ref r0, .int (iI a)] n z G V n z G V' none) (hrec1 : ∀ {a : Int} {V V' : mV} {v : Int}, rec 1 a 0 V = some (V', v) → Rn X dd 87 [.ref r0, .int (iI a)] n z G V n z G V' none) (hrec2 : ∀ {a : Int} {V V' : mV} {v : Int}, rec 2 a 0 V = some (V', v) → Rn X dd 88 [.ref r0, .int (iI a)] n z G V n z G V' none) (hrec3 : ∀ {a : Int} {V V' : mV} {v : Int}, rec 3 a 0 V = some (V', v) → Rn X dd 90 [.ref r0, .int (iI a)] n z G V n z G V' none) (hrec4 : ∀ {a : Int} {V V' : mV} {v : Int}, rec 4 a 0 V = some (V', v) → Rn X dd 91 [.ref r0, .int (iI a)] n z G V n z G V' none) (hrec5 : ∀ {a : Int} {V V' : mV} {v : Int}, rec 5 a 0 V = some (V', v) → Rn X dd 92 [.ref r0, .int (iI a)] n z G V n z G V' none) (hrec6 : ∀ {a b : Int} {V V' : mV} {v : Int}, rec 6 a b V = some (V', v) → Rn X dd 93 [.ref r0, .int (iI a), .int (iI b)] n z G V n z G V' none) {x1 x2 : Int} {j3 : Option Value} {V V' : mV} {fu : Nat} {q : Nat × Int} {Q : Nat → Nat → mG → mV → Option Value → Prop} (k1 : q.1 = 1 → ∀ j3 : Option Value, T X (dd + 1) 91 73 [some (.ref r0), some (.int (iI x1)), some (.int (iI q.2)), j3] [] n z G V' Q) (h : lp (fun (s : Int) V => B_X6_readProduct_7 rec G r0 x1 s V) fu x2 V = some (V', q)) : T X (dd + 1) 91 7 [some (.ref r0), some (.int (iI x1)), some (.int (iI x2)), j3] [] n z G V Q :=
  lp_go (P0 := fun s V => ∀ j3 : Option Value, T X (dd + 1) 91 7 [some (.ref r0), some (.int (iI x1)), some (.int (iI s)), j3] [] n z G V Q) (PE := fun t s V => (t = 1 → ∀ j3 : Option Value, T X (dd + 1) 91 73 [some (.ref r0), some (.int (iI x1)), some (.int (iI s)), j3] [] n z G V Q)) (fun s V V' q hb h0 h1 => fun _ => tb_X6_readProduct_7 rec hr0 hdd hrec0 hrec1 hrec2 hrec3 hrec4 hrec5 hrec6  h0 (fun e => (h1 (by omega)) e) hb) fu x2 V V' q h k1 _

theorem q_X6_readProduct {X : mX} {dd : Nat} (rec : Nat → Int → Int → mV → Option (mV × Int)) {n z : Nat} {G : mG} {r0 : Nat} (hr0 : is6 G r0) (hdd : 30 ≤ dd) (hrec0 : ∀ {a : Int} {V V' : mV} {v : Int}, rec 0 a 0 V = some (V', v) → Rn X dd 86 [.ref r0, .int (iI a)] n z G V n z G V' none) (hrec1 : ∀ {a : Int} {V V' : mV} {v : Int}, rec 1 a 0 V = some (V', v) → Rn X dd 87 [.ref r0, .int (iI a)] n z G V n z G V' none) (hrec2 : ∀ {a : Int} {V V' : mV} {v : Int}, rec 2 a 0 V = some (V', v) → Rn X dd 88 [.ref r0, .int (iI a)] n z G V n z G V' none) (hrec3 : ∀ {a : Int} {V V' : mV} {v : Int}, rec 3 a 0 V = some (V', v) → Rn X dd 90 [.ref r0, .int (iI a)] n z G V n z G V' none) (hrec4 : ∀ {a : Int} {V V' : mV} {v : Int}, rec 4 a 0 V = some (V', v) → Rn X dd 91 [.ref r0, .int (iI a)] n z G V n z G V' none) (hrec5 : ∀ {a : Int} {V V' : mV} {v : Int}, rec 5 a 0 V = some (V', v) → Rn X dd 92 [.ref r0, .int (iI a)] n z G V n z G V' none) (hrec6 : ∀ {a b : Int} {V V' : mV} {v : Int}, rec 6 a b V = some (V', v) → Rn X dd 93 [.ref r0, .int (iI a), .int (iI b)] n z G V n z G V' none) {x1 : Int} {V V' : mV} {v : Int} (h : F_X6_readProduct rec G r0 x1 V = some (V', v)) : Rn X (dd + 1) 91 [.ref r0, .int (iI x1)] n z G V n z G V' none := by
  refine qv_toR (v := v) (L := [some (.ref r0), some (.int (iI x1)), none, none]) rfl ?_
  unfold F_X6_readProduct at h
  refine t_l fX6_readProduct_0 rfl rfl rfl rfl ?_
  refine t_l fX6_readProduct_1 rfl rfl rfl rfl ?_
  obtain ⟨V1, v2, e3, h⟩ := bd_some h
  refine kcX6_readPart fX6_readProduct_2 (hr0).1 rfl (hrec5 e3) (by omega) ?_
  refine t_s fX6_readProduct_5 rfl rfl rfl ?_
  refine t_l fX6_readProduct_6 rfl rfl rfl rfl ?_
  obtain ⟨V31, u32, e33, h⟩ := bd_some h
  refine tl_X6_readProduct_7 rec hr0 hdd hrec0 hrec1 hrec2 hrec3 hrec4 hrec5 hrec6  (fun e34 j3 => ?_) e33
  refine t_ret fX6_readProduct_73 rX6_readProduct ?_
  exact qf_v h

theorem tj_X6_readPart_J94 {X : mX} {dd : Nat} (rec : Nat → Int → Int → mV → Option (mV × Int)) {n z : Nat} {G : mG} {r0 : Nat} (hr0 : is6 G r0) (hdd : 30 ≤ dd) (hrec0 : ∀ {a : Int} {V V' : mV} {v : Int}, rec 0 a 0 V = some (V', v) → Rn X dd 86 [.ref r0, .int (iI a)] n z G V n z G V' none) (hrec1 : ∀ {a : Int} {V V' : mV} {v : Int}, rec 1 a 0 V = some (V', v) → Rn X dd 87 [.ref r0, .int (iI a)] n z G V n z G V' none) (hrec2 : ∀ {a : Int} {V V' : mV} {v : Int}, rec 2 a 0 V = some (V', v) → Rn X dd 88 [.ref r0, .int (iI a)] n z G V n z G V' none) (hrec3 : ∀ {a : Int} {V V' : mV} {v : Int}, rec 3 a 0 V = some (V', v) → Rn X dd 90 [.ref r0, .int (iI a)] n z G V n z G V' none) (hrec4 : ∀ {a : Int} {V V' : mV} {v : Int}, rec 4 a 0 V = some (V', v) → Rn X dd 91 [.ref r0, .int (iI a)] n z G V n z G V' none) (hrec5 : ∀ {a : Int} {V V' : mV} {v : Int}, rec 5 a 0 V = some (V', v) → Rn X dd 92 [.ref r0, .int (iI a)] n z G V n z G V' none) (hrec6 : ∀ {a b : Int} {V V' : mV} {v : Int}, rec 6 a b V = some (V', v) → Rn X dd 93 [.ref r0, .int (iI a), .int (iI b)] n z G V n z G V' none) {x1 x2 : Int} {V V' : mV} {v : Int} (h : F_X6_readPart_J94 rec G r0 x1 x2 V = some (V', v)) : T X (dd + 1) 92 94 [some (.ref r0), some (.int (iI x1)), some (.int (iI x2))] [] n z G V (qv n z G V' v) := by
  unfold F_X6_readPart_J94 at h
  refine t_l fX6_readPart_94 rfl rfl rfl rfl ?_
  refine t_l fX6_readPart_95 rfl rfl rfl rfl ?_
  refine t_l fX6_readPart_96 rfl rfl rfl rfl ?_
  refine t_s fX6_readPart_97 rfl rfl rfl ?_
  obtain ⟨g24, h⟩ := gd_some h
  refine k9_ic_ne fX6_readPart_99 rfl g24 ⟨by decide, by decide⟩ (fun c23 => ?_) (fun c23 => ?_)
  · replace h := ite_f (c23) h
    refine t_s fX6_readPart_107 rfl rfl rfl ?_
    obtain ⟨V25, v26, e27, h⟩ := bd_some h
    refine kcX6_readPair fX6_readPart_109 (hr0).1 rfl (hrec6 e27) (by omega) ?_
    refine k9_goto fX6_readPart_112 rfl ?_
    refine t_ret fX6_readPart_199 rX6_readPart ?_
    exact qf_v h
  · replace h := ite_t (Classical.not_not.mp c23) h
    refine t_s fX6_readPart_102 rfl rfl rfl ?_
    refine k9_goto fX6_readPart_104 rfl ?_
    obtain ⟨V28, v29, e30, h⟩ := bd_some h
    refine kcX6_readPair fX6_readPart_109 (hr0).1 rfl (hrec6 e30) (by omega) ?_
    refine k9_goto fX6_readPart_112 rfl ?_
    refine t_ret fX6_readPart_199 rX6_readPart ?_
    exact qf_v h

theorem tj_X6_readPart_J190 {X : mX} {dd : Nat} (rec : Nat → Int → Int → mV → Option (mV × Int)) {n z : Nat} {G : mG} {r0 : Nat} (hr0 : is6 G r0) (hdd : 30 ≤ dd) (hrec0 : ∀ {a : Int} {V V' : mV} {v : Int}, rec 0 a 0 V = some (V', v) → Rn X dd 86 [.ref r0, .int (iI a)] n z G V n z G V' none) (hrec1 : ∀ {a : Int} {V V' : mV} {v : Int}, rec 1 a 0 V = some (V', v) → Rn X dd 87 [.ref r0, .int (iI a)] n z G V n z G V' none) (hrec2 : ∀ {a : Int} {V V' : mV} {v : Int}, rec 2 a 0 V = some (V', v) → Rn X dd 88 [.ref r0, .int (iI a)] n z G V n z G V' none) (hrec3 : ∀ {a : Int} {V V' : mV} {v : Int}, rec 3 a 0 V = some (V', v) → Rn X dd 90 [.ref r0, .int (iI a)] n z G V n z G V' none) (hrec4 : ∀ {a : Int} {V V' : mV} {v : Int}, rec 4 a 0 V = some (V', v) → Rn X dd 91 [.ref r0, .int (iI a)] n z G V n z G V' none) (hrec5 : ∀ {a : Int} {V V' : mV} {v : Int}, rec 5 a 0 V = some (V', v) → Rn X dd 92 [.ref r0, .int (iI a)] n z G V n z G V' none) (hrec6 : ∀ {a b : Int} {V V' : mV} {v : Int}, rec 6 a b V = some (V', v) → Rn X dd 93 [.ref r0, .int (iI a), .int (iI b)] n z G V n z G V' none) {x1 : Int} {j2 : Option Value} {V V' : mV} {v : Int} (h : F_X6_readPart_J190 rec G r0 x1 V = some (V', v)) : T X (dd + 1) 92 190 [some (.ref r0), some (.int (iI x1)), j2] [] n z G V (qv n z G V' v) := by
  unfold F_X6_readPart_J190 at h
  refine t_l fX6_readPart_190 rfl rfl rfl rfl ?_
  refine t_s fX6_readPart_191 rfl rfl rfl ?_
  refine t_l fX6_readPart_192 rfl rfl rfl rfl ?_
  obtain ⟨V35, v36, e37, h⟩ := bd_some h
  refine kcX6_here fX6_readPart_193 (hr0).1 rfl (q_X6_here (hr0) e37) (by omega) ?_
  obtain ⟨V38, v39, e40, h⟩ := bd_some h
  refine kcX6_fail fX6_readPart_196 (hr0).1 rfl (q_X6_fail (hr0) e40) (by omega) ?_
  refine t_ret fX6_readPart_199 rX6_readPart ?_
  exact qf_v h

theorem tj_X6_readPart_J156 {X : mX} {dd : Nat} (rec : Nat → Int → Int → mV → Option (mV × Int)) {n z : Nat} {G : mG} {r0 : Nat} (hr0 : is6 G r0) (hdd : 30 ≤ dd) (hrec0 : ∀ {a : Int} {V V' : mV} {v : Int}, rec 0 a 0 V = some (V', v) → Rn X dd 86 [.ref r0, .int (iI a)] n z G V n z G V' none) (hrec1 : ∀ {a : Int} {V V' : mV} {v : Int}, rec 1 a 0 V = some (V', v) → Rn X dd 87 [.ref r0, .int (iI a)] n z G V n z G V' none) (hrec2 : ∀ {a : Int} {V V' : mV} {v : Int}, rec 2 a 0 V = some (V', v) → Rn X dd 88 [.ref r0, .int (iI a)] n z G V n z G V' none) (hrec3 : ∀ {a : Int} {V V' : mV} {v : Int}, rec 3 a 0 V = some (V', v) → Rn X dd 90 [.ref r0, .int (iI a)] n z G V n z G V' none) (hrec4 : ∀ {a : Int} {V V' : mV} {v : Int}, rec 4 a 0 V = some (V', v) → Rn X dd 91 [.ref r0, .int (iI a)] n z G V n z G V' none) (hrec5 : ∀ {a : Int} {V V' : mV} {v : Int}, rec 5 a 0 V = some (V', v) → Rn X dd 92 [.ref r0, .int (iI a)] n z G V n z G V' none) (hrec6 : ∀ {a b : Int} {V V' : mV} {v : Int}, rec 6 a b V = some (V', v) → Rn X dd 93 [.ref r0, .int (iI a), .int (iI b)] n z G V n z G V' none) {x1 x2 : Int} {V V' : mV} {v : Int} (h : F_X6_readPart_J156 rec G r0 x1 x2 V = some (V', v)) : T X (dd + 1) 92 156 [some (.ref r0), some (.int (iI x1)), some (.int (iI x2))] [] n z G V (qv n z G V' v) := by
  unfold F_X6_readPart_J156 at h
  refine t_l fX6_readPart_156 rfl rfl rfl rfl ?_
  refine t_s fX6_readPart_157 rfl rfl rfl ?_
  obtain ⟨g34, h⟩ := gd_some h
  refine k9_ic_eq fX6_readPart_158 rfl g34 ⟨by decide, by decide⟩ (fun c33 => ?_) (fun c33 => ?_)
  · replace h := ite_t (c33) h
    exact tj_X6_readPart_J190 rec hr0 hdd hrec0 hrec1 hrec2 hrec3 hrec4 hrec5 hrec6   h
  · replace h := ite_f (c33) h
    refine t_l fX6_readPart_161 rfl rfl rfl rfl ?_
    refine k9_gj fX6_readPart_162 (hr0).1 kg_6_8 ?_
    refine t_l fX6_readPart_165 rfl rfl rfl rfl ?_
    obtain ⟨g41, h⟩ := gd_some h
    obtain ⟨g42, h⟩ := gd_some h
    refine k8_lshr fX6_readPart_166 g41 g42 ?_
    refine t_s fX6_readPart_167 rfl rfl rfl ?_
    refine k8_land1 fX6_readPart_168 ?_
    refine t_s fX6_readPart_169 rfl rfl rfl ?_
    obtain ⟨g43, h⟩ := gd_some h
    refine k9_lcmp fX6_readPart_170 g43 ⟨by decide, by decide⟩ ?_
    refine k9_if_ne fX6_readPart_171 rfl (cmp_rg _ _) (fun c44 => ?_) (fun c44 => ?_)
    · replace h := ite_f (fun q => c44 (cmp_eq.mpr q)) h
      exact tj_X6_readPart_J190 rec hr0 hdd hrec0 hrec1 hrec2 hrec3 hrec4 hrec5 hrec6   h
    · replace h := ite_t (Classical.byContradiction fun q => c44 (fun w => q (cmp_eq.mp w))) h
      refine t_l fX6_readPart_174 rfl rfl rfl rfl ?_
      obtain ⟨V45, v46, e47, h⟩ := bd_some h
      refine kcX6_take fX6_readPart_175 (hr0).1 rfl (q_X6_take (hr0) e47) (by omega) ?_
      refine t_l fX6_readPart_178 rfl rfl rfl rfl ?_
      refine k9_gr fX6_readPart_179 (hr0).1 kg_6_7 (s6_7r hr0) ?_
      refine t_s fX6_readPart_182 rfl rfl rfl ?_
      refine t_l fX6_readPart_183 rfl rfl rfl rfl ?_
      obtain ⟨V48, v49, e50, h⟩ := bd_some h
      refine kcX3_write fX6_readPart_184 (s6_7s hr0).1 rfl (q_X3_write (s6_7s hr0) e50) (by omega) ?_
      refine k9_goto fX6_readPart_187 rfl ?_
      refine t_ret fX6_readPart_199 rX6_readPart ?_
      exact qf_v h

theorem q_X6_readPart {X : mX} {dd : Nat} (rec : Nat → Int → Int → mV → Option (mV × Int)) {n z : Nat} {G : mG} {r0 : Nat} (hr0 : is6 G r0) (hdd : 30 ≤ dd) (hrec0 : ∀ {a : Int} {V V' : mV} {v : Int}, rec 0 a 0 V = some (V', v) → Rn X dd 86 [.ref r0, .int (iI a)] n z G V n z G V' none) (hrec1 : ∀ {a : Int} {V V' : mV} {v : Int}, rec 1 a 0 V = some (V', v) → Rn X dd 87 [.ref r0, .int (iI a)] n z G V n z G V' none) (hrec2 : ∀ {a : Int} {V V' : mV} {v : Int}, rec 2 a 0 V = some (V', v) → Rn X dd 88 [.ref r0, .int (iI a)] n z G V n z G V' none) (hrec3 : ∀ {a : Int} {V V' : mV} {v : Int}, rec 3 a 0 V = some (V', v) → Rn X dd 90 [.ref r0, .int (iI a)] n z G V n z G V' none) (hrec4 : ∀ {a : Int} {V V' : mV} {v : Int}, rec 4 a 0 V = some (V', v) → Rn X dd 91 [.ref r0, .int (iI a)] n z G V n z G V' none) (hrec5 : ∀ {a : Int} {V V' : mV} {v : Int}, rec 5 a 0 V = some (V', v) → Rn X dd 92 [.ref r0, .int (iI a)] n z G V n z G V' none) (hrec6 : ∀ {a b : Int} {V V' : mV} {v : Int}, rec 6 a b V = some (V', v) → Rn X dd 93 [.ref r0, .int (iI a), .int (iI b)] n z G V n z G V' none) {x1 : Int} {V V' : mV} {v : Int} (h : F_X6_readPart rec G r0 x1 V = some (V', v)) : Rn X (dd + 1) 92 [.ref r0, .int (iI x1)] n z G V n z G V' none := by
  refine qv_toR (v := v) (L := [some (.ref r0), some (.int (iI x1)), none]) rfl ?_
  unfold F_X6_readPart at h
  refine t_l fX6_readPart_0 rfl rfl rfl rfl ?_
  obtain ⟨V1, v2, e3, h⟩ := bd_some h
  refine kcX6_fine fX6_readPart_1 (hr0).1 rfl (q_X6_fine (hr0) e3) (by omega) ?_
  obtain ⟨g5, h⟩ := gd_some h
  refine k9_if_eq fX6_readPart_4 rfl g5 (fun c4 => ?_) (fun c4 => ?_)
  · replace h := ite_t (c4) h
    refine t_ret fX6_readPart_13 rX6_readPart ?_
    exact qf_v h
  · replace h := ite_f (c4) h
    refine t_l fX6_readPart_7 rfl rfl rfl rfl ?_
    refine t_s fX6_readPart_8 rfl rfl rfl ?_
    obtain ⟨g7, h⟩ := gd_some h
    refine k9_ic_le fX6_readPart_10 rfl g7 ⟨by decide, by decide⟩ (fun c6 => ?_) (fun c6 => ?_)
    · replace h := ite_t (c6) h
      refine t_l fX6_readPart_14 rfl rfl rfl rfl ?_
      obtain ⟨V8, v9, e10, h⟩ := bd_some h
      refine kcX6_word fX6_readPart_15 (hr0).1 rfl (q_X6_word (hr0) e10) (by omega) ?_
      refine t_l fX6_readPart_18 rfl rfl rfl rfl ?_
      refine t_l fX6_readPart_19 rfl rfl rfl rfl ?_
      refine k9_gr fX6_readPart_20 (hr0).1 kg_6_0 (s6_0r hr0) ?_
      refine t_l fX6_readPart_23 rfl rfl rfl rfl ?_
      refine k9_gi fX6_readPart_24 (hr0).1 kg_6_6 ?_
      obtain ⟨V11, v12, e13, h⟩ := bd_some h
      refine kcX7_get fX6_readPart_27 (s6_0s hr0).1 rfl (q_X7_get (s6_0s hr0) e13) (by omega) ?_
      refine t_s fX6_readPart_30 rfl rfl rfl ?_
      obtain ⟨g15, h⟩ := gd_some h
      refine k9_ic_ne fX6_readPart_31 rfl g15 ⟨by decide, by decide⟩ (fun c14 => ?_) (fun c14 => ?_)
      · replace h := ite_f (c14) h
        refine t_l fX6_readPart_52 rfl rfl rfl rfl ?_
        refine t_s fX6_readPart_53 rfl rfl rfl ?_
        obtain ⟨V16, v17, e18, h⟩ := bd_some h
        refine kcX6_isSign fX6_readPart_55 (hr0).1 rfl (q_X6_isSign (hr0) e18) (by omega) ?_
        obtain ⟨g20, h⟩ := gd_some h
        refine k9_if_eq fX6_readPart_58 rfl g20 (fun c19 => ?_) (fun c19 => ?_)
        · replace h := ite_t (c19) h
          refine t_l fX6_readPart_82 rfl rfl rfl rfl ?_
          refine t_s fX6_readPart_83 rfl rfl rfl ?_
          obtain ⟨g22, h⟩ := gd_some h
          refine k9_ic_eq fX6_readPart_85 rfl g22 ⟨by decide, by decide⟩ (fun c21 => ?_) (fun c21 => ?_)
          · replace h := ite_t (c21) h
            exact tj_X6_readPart_J94 rec hr0 hdd hrec0 hrec1 hrec2 hrec3 hrec4 hrec5 hrec6   h
          · replace h := ite_f (c21) h
            refine t_l fX6_readPart_88 rfl rfl rfl rfl ?_
            refine t_s fX6_readPart_89 rfl rfl rfl ?_
            refine k9_ic_ne fX6_readPart_91 rfl g22 ⟨by decide, by decide⟩ (fun c31 => ?_) (fun c31 => ?_)
            · replace h := ite_f (c31) h
              refine t_l fX6_readPart_115 rfl rfl rfl rfl ?_
              refine t_s fX6_readPart_116 rfl rfl rfl ?_
              refine k9_ic_ne fX6_readPart_118 rfl g22 ⟨by decide, by decide⟩ (fun c32 => ?_) (fun c32 => ?_)
              · replace h := ite_f (c32) h
                exact tj_X6_readPart_J156 rec hr0 hdd hrec0 hrec1 hrec2 hrec3 hrec4 hrec5 hrec6   h
              · replace h := ite_t (Classical.not_not.mp c32) h
                refine t_l fX6_readPart_121 rfl rfl rfl rfl ?_
                refine k9_gj fX6_readPart_122 (hr0).1 kg_6_8 ?_
                refine t_s fX6_readPart_125 rfl rfl rfl ?_
                obtain ⟨g51, h⟩ := gd_some h
                refine k9_lcmp fX6_readPart_128 g51 ⟨by decide, by decide⟩ ?_
                refine k9_if_ne fX6_readPart_129 rfl (cmp_rg _ _) (fun c52 => ?_) (fun c52 => ?_)
                · replace h := ite_f (fun q => c52 (cmp_eq.mpr q)) h
                  exact tj_X6_readPart_J156 rec hr0 hdd hrec0 hrec1 hrec2 hrec3 hrec4 hrec5 hrec6   h
                · replace h := ite_t (Classical.byContradiction fun q => c52 (fun w => q (cmp_eq.mp w))) h
                  refine t_l fX6_readPart_132 rfl rfl rfl rfl ?_
                  refine t_l fX6_readPart_133 rfl rfl rfl rfl ?_
                  obtain ⟨V53, v54, e55, h⟩ := bd_some h
                  refine kcX6_takeOpening fX6_readPart_134 (hr0).1 rfl (q_X6_takeOpening (hr0) e55) (by omega) ?_
                  refine t_l fX6_readPart_137 rfl rfl rfl rfl ?_
                  refine t_l fX6_readPart_138 rfl rfl rfl rfl ?_
                  refine t_s fX6_readPart_139 rfl rfl rfl ?_
                  refine k9_iadd fX6_readPart_140 ?_
                  obtain ⟨V56, v57, e58, h⟩ := bd_some h
                  refine kcX6_readPart fX6_readPart_141 (hr0).1 rfl (hrec5 e58) (by omega) ?_
                  refine t_l fX6_readPart_144 rfl rfl rfl rfl ?_
                  refine k9_gr fX6_readPart_145 (hr0).1 kg_6_7 (s6_7r hr0) ?_
                  refine t_s fX6_readPart_148 rfl rfl rfl ?_
                  refine t_s fX6_readPart_149 rfl rfl rfl ?_
                  obtain ⟨V59, v60, e61, h⟩ := bd_some h
                  refine kcX3_write fX6_readPart_150 (s6_7s hr0).1 rfl (q_X3_write (s6_7s hr0) e61) (by omega) ?_
                  refine k9_goto fX6_readPart_153 rfl ?_
                  refine t_ret fX6_readPart_199 rX6_readPart ?_
                  exact qf_v h
            · replace h := ite_t (Classical.not_not.mp c31) h
              exact tj_X6_readPart_J94 rec hr0 hdd hrec0 hrec1 hrec2 hrec3 hrec4 hrec5 hrec6   h
        · replace h := ite_f (c19) h
          refine t_l fX6_readPart_61 rfl rfl rfl rfl ?_
          refine t_l fX6_readPart_62 rfl rfl rfl rfl ?_
          obtain ⟨V62, v63, e64, h⟩ := bd_some h
          refine kcX6_takeOpening fX6_readPart_63 (hr0).1 rfl (q_X6_takeOpening (hr0) e64) (by omega) ?_
          refine t_l fX6_readPart_66 rfl rfl rfl rfl ?_
          refine t_l fX6_readPart_67 rfl rfl rfl rfl ?_
          refine t_s fX6_readPart_68 rfl rfl rfl ?_
          refine k9_iadd fX6_readPart_69 ?_
          obtain ⟨V65, v66, e67, h⟩ := bd_some h
          refine kcX6_readSum fX6_readPart_70 (hr0).1 rfl (hrec3 e67) (by omega) ?_
          refine t_l fX6_readPart_73 rfl rfl rfl rfl ?_
          refine t_s fX6_readPart_74 rfl rfl rfl ?_
          obtain ⟨V68, v69, e70, h⟩ := bd_some h
          refine kcX6_takeSign fX6_readPart_76 (hr0).1 rfl (q_X6_takeSign (hr0) e70) (by omega) ?_
          refine k9_goto fX6_readPart_79 rfl ?_
          refine t_ret fX6_readPart_199 rX6_readPart ?_
          exact qf_v h
      · replace h := ite_t (Classical.not_not.mp c14) h
        refine t_l fX6_readPart_34 rfl rfl rfl rfl ?_
        refine k9_gr fX6_readPart_35 (hr0).1 kg_6_7 (s6_7r hr0) ?_
        refine t_s fX6_readPart_38 rfl rfl rfl ?_
        refine t_l fX6_readPart_39 rfl rfl rfl rfl ?_
        refine t_s fX6_readPart_40 rfl rfl rfl ?_
        obtain ⟨V71, v72, e73, h⟩ := bd_some h
        refine kcX6_takeNumber fX6_readPart_43 (hr0).1 rfl (q_X6_takeNumber (hr0) e73) (by omega) ?_
        obtain ⟨V74, v75, e76, h⟩ := bd_some h
        refine kcX3_write fX6_readPart_46 (s6_7s hr0).1 rfl (q_X3_write (s6_7s hr0) e76) (by omega) ?_
        refine k9_goto fX6_readPart_49 rfl ?_
        refine t_ret fX6_readPart_199 rX6_readPart ?_
        exact qf_v h
    · replace h := ite_f (c6) h
      refine t_ret fX6_readPart_13 rX6_readPart ?_
      exact qf_v h

theorem tj_X6_readPair_J22 {X : mX} {dd : Nat} (rec : Nat → Int → Int → mV → Option (mV × Int)) {n z : Nat} {G : mG} {r0 : Nat} (hr0 : is6 G r0) (hdd : 30 ≤ dd) (hrec0 : ∀ {a : Int} {V V' : mV} {v : Int}, rec 0 a 0 V = some (V', v) → Rn X dd 86 [.ref r0, .int (iI a)] n z G V n z G V' none) (hrec1 : ∀ {a : Int} {V V' : mV} {v : Int}, rec 1 a 0 V = some (V', v) → Rn X dd 87 [.ref r0, .int (iI a)] n z G V n z G V' none) (hrec2 : ∀ {a : Int} {V V' : mV} {v : Int}, rec 2 a 0 V = some (V', v) → Rn X dd 88 [.ref r0, .int (iI a)] n z G V n z G V' none) (hrec3 : ∀ {a : Int} {V V' : mV} {v : Int}, rec 3 a 0 V = some (V', v) → Rn X dd 90 [.ref r0, .int (iI a)] n z G V n z G V' none) (hrec4 : ∀ {a : Int} {V V' : mV} {v : Int}, rec 4 a 0 V = some (V', v) → Rn X dd 91 [.ref r0, .int (iI a)] n z G V n z G V' none) (hrec5 : ∀ {a : Int} {V V' : mV} {v : Int}, rec 5 a 0 V = some (V', v) → Rn X dd 92 [.ref r0, .int (iI a)] n z G V n z G V' none) (hrec6 : ∀ {a b : Int} {V V' : mV} {v : Int}, rec 6 a b V = some (V', v) → Rn X dd 93 [.ref r0, .int (iI a), .int (iI b)] n z G V n z G V' none) {x1 x2 : Int} {V V' : mV} {v : Int} (h : F_X6_readPair_J22 rec G r0 x1 x2 V = some (V', v)) : T X (dd + 1) 93 22 [some (.ref r0), some (.int (iI x1)), some (.int (iI x2))] [] n z G V (qv n z G V' v) := by
  unfold F_X6_readPair_J22 at h
  refine t_l fX6_readPair_22 rfl rfl rfl rfl ?_
  refine t_l fX6_readPair_23 rfl rfl rfl rfl ?_
  obtain ⟨V9, v10, e11, h⟩ := bd_some h
  refine kcX6_takeOpening fX6_readPair_24 (hr0).1 rfl (q_X6_takeOpening (hr0) e11) (by omega) ?_
  refine t_l fX6_readPair_27 rfl rfl rfl rfl ?_
  refine t_l fX6_readPair_28 rfl rfl rfl rfl ?_
  refine t_s fX6_readPair_29 rfl rfl rfl ?_
  refine k9_iadd fX6_readPair_30 ?_
  obtain ⟨V12, v13, e14, h⟩ := bd_some h
  refine kcX6_readSum fX6_readPair_31 (hr0).1 rfl (hrec3 e14) (by omega) ?_
  refine t_l fX6_readPair_34 rfl rfl rfl rfl ?_
  refine t_s fX6_readPair_35 rfl rfl rfl ?_
  obtain ⟨V15, v16, e17, h⟩ := bd_some h
  refine kcX6_takeSign fX6_readPair_37 (hr0).1 rfl (q_X6_takeSign (hr0) e17) (by omega) ?_
  refine t_l fX6_readPair_40 rfl rfl rfl rfl ?_
  refine t_l fX6_readPair_41 rfl rfl rfl rfl ?_
  refine t_s fX6_readPair_42 rfl rfl rfl ?_
  refine k9_iadd fX6_readPair_43 ?_
  obtain ⟨V18, v19, e20, h⟩ := bd_some h
  refine kcX6_readSum fX6_readPair_44 (hr0).1 rfl (hrec3 e20) (by omega) ?_
  refine t_l fX6_readPair_47 rfl rfl rfl rfl ?_
  refine t_s fX6_readPair_48 rfl rfl rfl ?_
  obtain ⟨V21, v22, e23, h⟩ := bd_some h
  refine kcX6_takeSign fX6_readPair_50 (hr0).1 rfl (q_X6_takeSign (hr0) e23) (by omega) ?_
  refine t_l fX6_readPair_53 rfl rfl rfl rfl ?_
  refine k9_gr fX6_readPair_54 (hr0).1 kg_6_7 (s6_7r hr0) ?_
  refine t_l fX6_readPair_57 rfl rfl rfl rfl ?_
  refine t_s fX6_readPair_58 rfl rfl rfl ?_
  obtain ⟨V24, v25, e26, h⟩ := bd_some h
  refine kcX3_write fX6_readPair_59 (s6_7s hr0).1 rfl (q_X3_write (s6_7s hr0) e26) (by omega) ?_
  refine t_ret fX6_readPair_62 rX6_readPair ?_
  exact qf_v h

theorem q_X6_readPair {X : mX} {dd : Nat} (rec : Nat → Int → Int → mV → Option (mV × Int)) {n z : Nat} {G : mG} {r0 : Nat} (hr0 : is6 G r0) (hdd : 30 ≤ dd) (hrec0 : ∀ {a : Int} {V V' : mV} {v : Int}, rec 0 a 0 V = some (V', v) → Rn X dd 86 [.ref r0, .int (iI a)] n z G V n z G V' none) (hrec1 : ∀ {a : Int} {V V' : mV} {v : Int}, rec 1 a 0 V = some (V', v) → Rn X dd 87 [.ref r0, .int (iI a)] n z G V n z G V' none) (hrec2 : ∀ {a : Int} {V V' : mV} {v : Int}, rec 2 a 0 V = some (V', v) → Rn X dd 88 [.ref r0, .int (iI a)] n z G V n z G V' none) (hrec3 : ∀ {a : Int} {V V' : mV} {v : Int}, rec 3 a 0 V = some (V', v) → Rn X dd 90 [.ref r0, .int (iI a)] n z G V n z G V' none) (hrec4 : ∀ {a : Int} {V V' : mV} {v : Int}, rec 4 a 0 V = some (V', v) → Rn X dd 91 [.ref r0, .int (iI a)] n z G V n z G V' none) (hrec5 : ∀ {a : Int} {V V' : mV} {v : Int}, rec 5 a 0 V = some (V', v) → Rn X dd 92 [.ref r0, .int (iI a)] n z G V n z G V' none) (hrec6 : ∀ {a b : Int} {V V' : mV} {v : Int}, rec 6 a b V = some (V', v) → Rn X dd 93 [.ref r0, .int (iI a), .int (iI b)] n z G V n z G V' none) {x1 x2 : Int} {V V' : mV} {v : Int} (h : F_X6_readPair rec G r0 x1 x2 V = some (V', v)) : Rn X (dd + 1) 93 [.ref r0, .int (iI x1), .int (iI x2)] n z G V n z G V' none := by
  refine qv_toR (v := v) (L := [some (.ref r0), some (.int (iI x1)), some (.int (iI x2))]) rfl ?_
  unfold F_X6_readPair at h
  refine t_l fX6_readPair_0 rfl rfl rfl rfl ?_
  obtain ⟨V1, v2, e3, h⟩ := bd_some h
  refine kcX6_take fX6_readPair_1 (hr0).1 rfl (q_X6_take (hr0) e3) (by omega) ?_
  refine t_l fX6_readPair_4 rfl rfl rfl rfl ?_
  refine t_s fX6_readPair_5 rfl rfl rfl ?_
  obtain ⟨V4, v5, e6, h⟩ := bd_some h
  refine kcX6_isSign fX6_readPair_7 (hr0).1 rfl (q_X6_isSign (hr0) e6) (by omega) ?_
  obtain ⟨g8, h⟩ := gd_some h
  refine k9_if_ne fX6_readPair_10 rfl g8 (fun c7 => ?_) (fun c7 => ?_)
  · replace h := ite_f (c7) h
    exact tj_X6_readPair_J22 rec hr0 hdd hrec0 hrec1 hrec2 hrec3 hrec4 hrec5 hrec6   h
  · replace h := ite_t (Classical.not_not.mp c7) h
    refine t_l fX6_readPair_13 rfl rfl rfl rfl ?_
    refine t_s fX6_readPair_14 rfl rfl rfl ?_
    refine t_l fX6_readPair_15 rfl rfl rfl rfl ?_
    obtain ⟨V27, v28, e29, h⟩ := bd_some h
    refine kcX6_here fX6_readPair_16 (hr0).1 rfl (q_X6_here (hr0) e29) (by omega) ?_
    obtain ⟨V30, v31, e32, h⟩ := bd_some h
    refine kcX6_fail fX6_readPair_19 (hr0).1 rfl (q_X6_fail (hr0) e32) (by omega) ?_
    exact tj_X6_readPair_J22 rec hr0 hdd hrec0 hrec1 hrec2 hrec3 hrec4 hrec5 hrec6   h


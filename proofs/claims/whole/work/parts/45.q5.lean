theorem tj_X10_qGoesOn_J112_0 {X : mX} {n z : Nat} {G : mG} {r0 : Nat} (hr0 : is10 G r0) {s1 : Int} {j1 : Option Value} {V V' : mV} {q : Nat × Unit} {Q : Nat → Nat → mG → mV → Option Value → Prop} (h0 : q.1 = 0 → ∀ j1 : Option Value, T X (3) 264 0 [some (.ref r0), j1] [] n z G V' Q) (h1 : q.1 = 1 → ∀ j1 : Option Value, T X (3) 264 122 [some (.ref r0), j1] [] n z G V' Q) (h : F_X10_qGoesOn_J112_0 G r0 s1 V = some (V', q)) : T X (3) 264 112 [some (.ref r0), j1] [.int (iI s1), .ref r0] n z G V Q := by
  unfold F_X10_qGoesOn_J112_0 at h
  obtain ⟨V26, v27, e28, h⟩ := bd_some h
  refine kcX10_qCode fX10_qGoesOn_112 (hr0).1 rfl (q_X10_qCode (hr0) e28) (by decide) ?_
  refine t_l fX10_qGoesOn_115 rfl rfl rfl rfl ?_
  obtain ⟨V29, v30, e31, h⟩ := bd_some h
  refine kcX10_qEndsPart fX10_qGoesOn_116 (hr0).1 rfl (q_X10_qEndsPart (hr0) e31) (by decide) ?_
  refine k9_goto fX10_qGoesOn_119 rfl ?_
  cases h
  exact h0 rfl _

theorem tj_X10_qGoesOn_J43_0 {X : mX} {n z : Nat} {G : mG} {r0 : Nat} (hr0 : is10 G r0) {j1 : Option Value} {V V' : mV} {q : Nat × Unit} {Q : Nat → Nat → mG → mV → Option Value → Prop} (h0 : q.1 = 0 → ∀ j1 : Option Value, T X (3) 264 0 [some (.ref r0), j1] [] n z G V' Q) (h1 : q.1 = 1 → ∀ j1 : Option Value, T X (3) 264 122 [some (.ref r0), j1] [] n z G V' Q) (h : F_X10_qGoesOn_J43_0 G r0 V = some (V', q)) : T X (3) 264 43 [some (.ref r0), j1] [] n z G V Q := by
  unfold F_X10_qGoesOn_J43_0 at h
  refine t_l fX10_qGoesOn_43 rfl rfl rfl rfl ?_
  refine t_s fX10_qGoesOn_44 rfl rfl rfl ?_
  refine k9_gi fX10_qGoesOn_45 (hr0).1 kg_10_2 ?_
  refine t_s fX10_qGoesOn_48 rfl rfl rfl ?_
  refine k9_iadd fX10_qGoesOn_49 ?_
  refine k9_pi fX10_qGoesOn_50 (hr0).1 kp_10_2 ?_
  replace h := lt_some h
  refine t_l fX10_qGoesOn_53 rfl rfl rfl rfl ?_
  obtain ⟨V14, v15, e16, h⟩ := bd_some h
  refine kcX10_qDropsToBracket fX10_qGoesOn_54 (hr0).1 rfl (q_X10_qDropsToBracket (hr0) e16) (by decide) ?_
  refine t_l fX10_qGoesOn_57 rfl rfl rfl rfl ?_
  refine t_s fX10_qGoesOn_58 rfl rfl rfl ?_
  refine k9_gi fX10_qGoesOn_59 (hr0).1 kg_10_100 ?_
  refine t_s fX10_qGoesOn_62 rfl rfl rfl ?_
  refine k9_isub fX10_qGoesOn_63 ?_
  refine k9_pi fX10_qGoesOn_64 (hr0).1 kp_10_100 ?_
  replace h := lt_some h
  refine t_l fX10_qGoesOn_67 rfl rfl rfl rfl ?_
  refine t_s fX10_qGoesOn_68 rfl rfl rfl ?_
  refine k9_gi fX10_qGoesOn_69 (hr0).1 kg_10_101 ?_
  refine t_s fX10_qGoesOn_72 rfl rfl rfl ?_
  refine k9_isub fX10_qGoesOn_73 ?_
  refine k9_pi fX10_qGoesOn_74 (hr0).1 kp_10_101 ?_
  replace h := lt_some h
  refine t_l fX10_qGoesOn_77 rfl rfl rfl rfl ?_
  refine k9_gr fX10_qGoesOn_78 (hr0).1 kg_10_99 (s10_99r hr0) ?_
  refine t_l fX10_qGoesOn_81 rfl rfl rfl rfl ?_
  refine k9_gi fX10_qGoesOn_82 (hr0).1 kg_10_100 ?_
  obtain ⟨g19, h⟩ := gd_some h
  refine k9_ia fX10_qGoesOn_85 (s10_99s hr0) g19.1 g19.2.1 g19.2.2 ?_
  refine t_s fX10_qGoesOn_86 rfl rfl rfl ?_
  obtain ⟨g21, h⟩ := gd_some h
  refine k9_ic_eq fX10_qGoesOn_88 rfl g21 ⟨by decide, by decide⟩ (fun c20 => ?_) (fun c20 => ?_)
  · replace h := ite_t (c20) h
    refine t_l fX10_qGoesOn_115 rfl rfl rfl rfl ?_
    obtain ⟨V22, v23, e24, h⟩ := bd_some h
    refine kcX10_qEndsPart fX10_qGoesOn_116 (hr0).1 rfl (q_X10_qEndsPart (hr0) e24) (by decide) ?_
    refine k9_goto fX10_qGoesOn_119 rfl ?_
    cases h
    exact h0 rfl _
  · replace h := ite_f (c20) h
    refine t_l fX10_qGoesOn_91 rfl rfl rfl rfl ?_
    refine t_l fX10_qGoesOn_92 rfl rfl rfl rfl ?_
    refine k9_gr fX10_qGoesOn_93 (hr0).1 kg_10_99 (s10_99r hr0) ?_
    refine t_l fX10_qGoesOn_96 rfl rfl rfl rfl ?_
    refine k9_gi fX10_qGoesOn_97 (hr0).1 kg_10_100 ?_
    refine k9_ia fX10_qGoesOn_100 (s10_99s hr0) g19.1 g19.2.1 g19.2.2 ?_
    refine t_s fX10_qGoesOn_101 rfl rfl rfl ?_
    refine k9_ic_ne fX10_qGoesOn_103 rfl g21 ⟨by decide, by decide⟩ (fun c25 => ?_) (fun c25 => ?_)
    · replace h := ite_f (c25) h
      refine t_s fX10_qGoesOn_110 rfl rfl rfl ?_
      exact tj_X10_qGoesOn_J112_0 hr0  h0 h1 h
    · replace h := ite_t (Classical.not_not.mp c25) h
      refine t_s fX10_qGoesOn_106 rfl rfl rfl ?_
      refine k9_goto fX10_qGoesOn_107 rfl ?_
      exact tj_X10_qGoesOn_J112_0 hr0  h0 h1 h

theorem tb_X10_qGoesOn_0 {X : mX} {n z : Nat} {G : mG} {r0 : Nat} (hr0 : is10 G r0) {j1 : Option Value} {V V' : mV} {q : Nat × Unit} {Q : Nat → Nat → mG → mV → Option Value → Prop} (h0 : q.1 = 0 → ∀ j1 : Option Value, T X (3) 264 0 [some (.ref r0), j1] [] n z G V' Q) (h1 : q.1 = 1 → ∀ j1 : Option Value, T X (3) 264 122 [some (.ref r0), j1] [] n z G V' Q) (h : B_X10_qGoesOn_0 G r0 V = some (V', q)) : T X (3) 264 0 [some (.ref r0), j1] [] n z G V Q := by
  unfold B_X10_qGoesOn_0 at h
  refine t_l fX10_qGoesOn_0 rfl rfl rfl rfl ?_
  refine k9_gi fX10_qGoesOn_1 (hr0).1 kg_10_5 ?_
  obtain ⟨g2, h⟩ := gd_some h
  refine k9_if_ne fX10_qGoesOn_4 rfl g2 (fun c1 => ?_) (fun c1 => ?_)
  · replace h := ite_f (c1) h
    cases h
    exact h1 rfl _
  · replace h := ite_t (Classical.not_not.mp c1) h
    refine t_l fX10_qGoesOn_7 rfl rfl rfl rfl ?_
    obtain ⟨V3, v4, e5, h⟩ := bd_some h
    refine kcX10_look fX10_qGoesOn_8 (hr0).1 rfl (q_X10_look (hr0) e5) (by decide) ?_
    refine t_s fX10_qGoesOn_11 rfl rfl rfl ?_
    obtain ⟨g7, h⟩ := gd_some h
    refine k9_ic_ne fX10_qGoesOn_13 rfl g7 ⟨by decide, by decide⟩ (fun c6 => ?_) (fun c6 => ?_)
    · replace h := ite_f (c6) h
      cases h
      exact h1 rfl _
    · replace h := ite_t (Classical.not_not.mp c6) h
      refine t_l fX10_qGoesOn_16 rfl rfl rfl rfl ?_
      obtain ⟨V8, v9, e10, h⟩ := bd_some h
      refine kcX10_qBracket fX10_qGoesOn_17 (hr0).1 rfl (q_X10_qBracket (hr0) e10) (by decide) ?_
      refine t_s fX10_qGoesOn_20 rfl rfl rfl ?_
      obtain ⟨g12, h⟩ := gd_some h
      refine k9_ic_eq fX10_qGoesOn_22 rfl g12 ⟨by decide, by decide⟩ (fun c11 => ?_) (fun c11 => ?_)
      · replace h := ite_t (c11) h
        exact tj_X10_qGoesOn_J43_0 hr0  h0 h1 h
      · replace h := ite_f (c11) h
        refine t_l fX10_qGoesOn_25 rfl rfl rfl rfl ?_
        obtain ⟨V32, v33, e34, h⟩ := bd_some h
        refine kcX10_qBracket fX10_qGoesOn_26 (hr0).1 rfl (q_X10_qBracket (hr0) e34) (by decide) ?_
        refine t_s fX10_qGoesOn_29 rfl rfl rfl ?_
        obtain ⟨g36, h⟩ := gd_some h
        refine k9_ic_eq fX10_qGoesOn_31 rfl g36 ⟨by decide, by decide⟩ (fun c35 => ?_) (fun c35 => ?_)
        · replace h := ite_t (c35) h
          exact tj_X10_qGoesOn_J43_0 hr0  h0 h1 h
        · replace h := ite_f (c35) h
          refine t_l fX10_qGoesOn_34 rfl rfl rfl rfl ?_
          obtain ⟨V37, v38, e39, h⟩ := bd_some h
          refine kcX10_qBracket fX10_qGoesOn_35 (hr0).1 rfl (q_X10_qBracket (hr0) e39) (by decide) ?_
          refine t_s fX10_qGoesOn_38 rfl rfl rfl ?_
          obtain ⟨g41, h⟩ := gd_some h
          refine k9_ic_ne fX10_qGoesOn_40 rfl g41 ⟨by decide, by decide⟩ (fun c40 => ?_) (fun c40 => ?_)
          · replace h := ite_f (c40) h
            cases h
            exact h1 rfl _
          · replace h := ite_t (Classical.not_not.mp c40) h
            exact tj_X10_qGoesOn_J43_0 hr0  h0 h1 h

theorem tl_X10_qGoesOn_0 {X : mX} {n z : Nat} {G : mG} {r0 : Nat} (hr0 : is10 G r0) {j1 : Option Value} {V V' : mV} {fu : Nat} {q : Nat × Unit} {Q : Nat → Nat → mG → mV → Option Value → Prop} (k1 : q.1 = 1 → ∀ j1 : Option Value, T X (3) 264 122 [some (.ref r0), j1] [] n z G V' Q) (h : lp (fun (s : Unit) V => B_X10_qGoesOn_0 G r0  V) fu () V = some (V', q)) : T X (3) 264 0 [some (.ref r0), j1] [] n z G V Q :=
  lp_go (P0 := fun s V => ∀ j1 : Option Value, T X (3) 264 0 [some (.ref r0), j1] [] n z G V Q) (PE := fun t s V => (t = 1 → ∀ j1 : Option Value, T X (3) 264 122 [some (.ref r0), j1] [] n z G V Q)) (fun s V V' q hb h0 h1 => fun _ => tb_X10_qGoesOn_0 hr0  h0 (fun e => (h1 (by omega)) e) hb) fu () V V' q h k1 _

theorem tb_X10_qGoesOn_162 {X : mX} {n z : Nat} {G : mG} {r0 : Nat} (hr0 : is10 G r0) {x1 : Int} {V V' : mV} {q : Nat × Unit} {Q : Nat → Nat → mG → mV → Option Value → Prop} (h0 : q.1 = 0 → T X (3) 264 162 [some (.ref r0), some (.int (iI x1))] [] n z G V' Q) (h1 : q.1 = 1 → T X (3) 264 185 [some (.ref r0), some (.int (iI x1))] [] n z G V' Q) (h : B_X10_qGoesOn_162 G r0 x1 V = some (V', q)) : T X (3) 264 162 [some (.ref r0), some (.int (iI x1))] [] n z G V Q := by
  unfold B_X10_qGoesOn_162 at h
  refine t_l fX10_qGoesOn_162 rfl rfl rfl rfl ?_
  refine t_s fX10_qGoesOn_163 rfl rfl rfl ?_
  obtain ⟨V54, v55, e56, h⟩ := bd_some h
  refine kcX10_qIsOn fX10_qGoesOn_164 (hr0).1 rfl (q_X10_qIsOn (hr0) e56) (by decide) ?_
  obtain ⟨g58, h⟩ := gd_some h
  refine k9_if_ne fX10_qGoesOn_167 rfl g58 (fun c57 => ?_) (fun c57 => ?_)
  · replace h := ite_f (c57) h
    refine t_l fX10_qGoesOn_178 rfl rfl rfl rfl ?_
    obtain ⟨V59, v60, e61, h⟩ := bd_some h
    refine kcX10_qDrops fX10_qGoesOn_179 (hr0).1 rfl (q_X10_qDrops (hr0) e61) (by decide) ?_
    refine k9_goto fX10_qGoesOn_182 rfl ?_
    cases h
    exact h0 rfl
  · replace h := ite_t (Classical.not_not.mp c57) h
    refine t_l fX10_qGoesOn_170 rfl rfl rfl rfl ?_
    refine t_s fX10_qGoesOn_171 rfl rfl rfl ?_
    obtain ⟨V62, v63, e64, h⟩ := bd_some h
    refine kcX10_qIsOn fX10_qGoesOn_172 (hr0).1 rfl (q_X10_qIsOn (hr0) e64) (by decide) ?_
    obtain ⟨g66, h⟩ := gd_some h
    refine k9_if_eq fX10_qGoesOn_175 rfl g66 (fun c65 => ?_) (fun c65 => ?_)
    · replace h := ite_t (c65) h
      cases h
      exact h1 rfl
    · replace h := ite_f (c65) h
      refine t_l fX10_qGoesOn_178 rfl rfl rfl rfl ?_
      obtain ⟨V67, v68, e69, h⟩ := bd_some h
      refine kcX10_qDrops fX10_qGoesOn_179 (hr0).1 rfl (q_X10_qDrops (hr0) e69) (by decide) ?_
      refine k9_goto fX10_qGoesOn_182 rfl ?_
      cases h
      exact h0 rfl

theorem tl_X10_qGoesOn_162 {X : mX} {n z : Nat} {G : mG} {r0 : Nat} (hr0 : is10 G r0) {x1 : Int} {V V' : mV} {fu : Nat} {q : Nat × Unit} {Q : Nat → Nat → mG → mV → Option Value → Prop} (k1 : q.1 = 1 → T X (3) 264 185 [some (.ref r0), some (.int (iI x1))] [] n z G V' Q) (h : lp (fun (s : Unit) V => B_X10_qGoesOn_162 G r0 x1  V) fu () V = some (V', q)) : T X (3) 264 162 [some (.ref r0), some (.int (iI x1))] [] n z G V Q :=
  lp_go (P0 := fun s V => T X (3) 264 162 [some (.ref r0), some (.int (iI x1))] [] n z G V Q) (PE := fun t s V => (t = 1 → T X (3) 264 185 [some (.ref r0), some (.int (iI x1))] [] n z G V Q)) (fun s V V' q hb h0 h1 => tb_X10_qGoesOn_162 hr0  h0 (fun e => (h1 (by omega)) e) hb) fu () V V' q h k1

theorem tj_X10_qGoesOn_J161 {X : mX} {n z : Nat} {G : mG} {r0 : Nat} (hr0 : is10 G r0) {s0 : Int} {j1 : Option Value} {V V' : mV} {v : Int} (h : F_X10_qGoesOn_J161 G r0 s0 V = some (V', v)) : T X (3) 264 161 [some (.ref r0), j1] [.int (iI s0)] n z G V (qi n z G V' v) := by
  unfold F_X10_qGoesOn_J161 at h
  refine t_l fX10_qGoesOn_161 rfl rfl rfl rfl ?_
  obtain ⟨V70, u71, e72, h⟩ := bd_some h
  refine tl_X10_qGoesOn_162 hr0  (fun e73 => ?_) e72
  refine t_l fX10_qGoesOn_185 rfl rfl rfl rfl ?_
  refine k9_gr fX10_qGoesOn_186 (hr0).1 kg_10_99 (s10_99r hr0) ?_
  refine t_l fX10_qGoesOn_189 rfl rfl rfl rfl ?_
  refine k9_gi fX10_qGoesOn_190 (hr0).1 kg_10_100 ?_
  refine t_l fX10_qGoesOn_193 rfl rfl rfl rfl ?_
  obtain ⟨g74, h⟩ := gd_some h
  refine k9_is fX10_qGoesOn_194 (s10_99s hr0) g74.1 g74.2.1 g74.2.2 ?_
  replace h := lt_some h
  refine t_l fX10_qGoesOn_195 rfl rfl rfl rfl ?_
  refine t_s fX10_qGoesOn_196 rfl rfl rfl ?_
  refine k9_gi fX10_qGoesOn_197 (hr0).1 kg_10_100 ?_
  refine t_s fX10_qGoesOn_200 rfl rfl rfl ?_
  refine k9_iadd fX10_qGoesOn_201 ?_
  refine k9_pi fX10_qGoesOn_202 (hr0).1 kp_10_100 ?_
  replace h := lt_some h
  refine t_s fX10_qGoesOn_205 rfl rfl rfl ?_
  refine t_ret fX10_qGoesOn_206 (rX10_qGoesOn _ (by decide)) ?_
  exact qf_i h

theorem tj_X10_qGoesOn_J140 {X : mX} {n z : Nat} {G : mG} {r0 : Nat} (hr0 : is10 G r0) {j1 : Option Value} {V V' : mV} {v : Int} (h : F_X10_qGoesOn_J140 G r0 V = some (V', v)) : T X (3) 264 140 [some (.ref r0), j1] [] n z G V (qi n z G V' v) := by
  unfold F_X10_qGoesOn_J140 at h
  refine t_l fX10_qGoesOn_140 rfl rfl rfl rfl ?_
  refine k9_gr fX10_qGoesOn_141 (hr0).1 kg_10_0 (s10_0r hr0) ?_
  refine t_l fX10_qGoesOn_144 rfl rfl rfl rfl ?_
  refine k9_gi fX10_qGoesOn_145 (hr0).1 kg_10_2 ?_
  refine t_s fX10_qGoesOn_148 rfl rfl rfl ?_
  refine k9_isub fX10_qGoesOn_149 ?_
  obtain ⟨g51, h⟩ := gd_some h
  refine k9_ia fX10_qGoesOn_150 (s10_0s hr0) g51.1 g51.2.1 g51.2.2 ?_
  refine t_s fX10_qGoesOn_151 rfl rfl rfl ?_
  obtain ⟨g53, h⟩ := gd_some h
  refine k9_ic_ne fX10_qGoesOn_153 rfl g53 ⟨by decide, by decide⟩ (fun c52 => ?_) (fun c52 => ?_)
  · replace h := ite_f (c52) h
    refine t_s fX10_qGoesOn_160 rfl rfl rfl ?_
    exact tj_X10_qGoesOn_J161 hr0   h
  · replace h := ite_t (Classical.not_not.mp c52) h
    refine t_s fX10_qGoesOn_156 rfl rfl rfl ?_
    refine k9_goto fX10_qGoesOn_157 rfl ?_
    exact tj_X10_qGoesOn_J161 hr0   h

theorem tb_X10_qGoesOn_247 {X : mX} {n z : Nat} {G : mG} {r0 : Nat} (hr0 : is10 G r0) {x1 : Int} {V V' : mV} {q : Nat × Unit} {Q : Nat → Nat → mG → mV → Option Value → Prop} (h0 : q.1 = 0 → T X (3) 264 247 [some (.ref r0), some (.int (iI x1))] [] n z G V' Q) (h1 : q.1 = 1 → T X (3) 264 286 [some (.ref r0), some (.int (iI x1))] [] n z G V' Q) (h : B_X10_qGoesOn_247 G r0 x1 V = some (V', q)) : T X (3) 264 247 [some (.ref r0), some (.int (iI x1))] [] n z G V Q := by
  unfold B_X10_qGoesOn_247 at h
  refine t_l fX10_qGoesOn_247 rfl rfl rfl rfl ?_
  refine t_s fX10_qGoesOn_248 rfl rfl rfl ?_
  obtain ⟨V90, v91, e92, h⟩ := bd_some h
  refine kcX10_qIsOn fX10_qGoesOn_249 (hr0).1 rfl (q_X10_qIsOn (hr0) e92) (by decide) ?_
  obtain ⟨g94, h⟩ := gd_some h
  refine k9_if_ne fX10_qGoesOn_252 rfl g94 (fun c93 => ?_) (fun c93 => ?_)
  · replace h := ite_f (c93) h
    refine t_l fX10_qGoesOn_279 rfl rfl rfl rfl ?_
    obtain ⟨V95, v96, e97, h⟩ := bd_some h
    refine kcX10_qDrops fX10_qGoesOn_280 (hr0).1 rfl (q_X10_qDrops (hr0) e97) (by decide) ?_
    refine k9_goto fX10_qGoesOn_283 rfl ?_
    cases h
    exact h0 rfl
  · replace h := ite_t (Classical.not_not.mp c93) h
    refine t_l fX10_qGoesOn_255 rfl rfl rfl rfl ?_
    refine t_s fX10_qGoesOn_256 rfl rfl rfl ?_
    obtain ⟨V98, v99, e100, h⟩ := bd_some h
    refine kcX10_qIsOn fX10_qGoesOn_257 (hr0).1 rfl (q_X10_qIsOn (hr0) e100) (by decide) ?_
    obtain ⟨g102, h⟩ := gd_some h
    refine k9_if_ne fX10_qGoesOn_260 rfl g102 (fun c101 => ?_) (fun c101 => ?_)
    · replace h := ite_f (c101) h
      refine t_l fX10_qGoesOn_279 rfl rfl rfl rfl ?_
      obtain ⟨V103, v104, e105, h⟩ := bd_some h
      refine kcX10_qDrops fX10_qGoesOn_280 (hr0).1 rfl (q_X10_qDrops (hr0) e105) (by decide) ?_
      refine k9_goto fX10_qGoesOn_283 rfl ?_
      cases h
      exact h0 rfl
    · replace h := ite_t (Classical.not_not.mp c101) h
      refine t_l fX10_qGoesOn_263 rfl rfl rfl rfl ?_
      refine t_s fX10_qGoesOn_264 rfl rfl rfl ?_
      obtain ⟨V106, v107, e108, h⟩ := bd_some h
      refine kcX10_qIsOn fX10_qGoesOn_265 (hr0).1 rfl (q_X10_qIsOn (hr0) e108) (by decide) ?_
      obtain ⟨g110, h⟩ := gd_some h
      refine k9_if_ne fX10_qGoesOn_268 rfl g110 (fun c109 => ?_) (fun c109 => ?_)
      · replace h := ite_f (c109) h
        refine t_l fX10_qGoesOn_279 rfl rfl rfl rfl ?_
        obtain ⟨V111, v112, e113, h⟩ := bd_some h
        refine kcX10_qDrops fX10_qGoesOn_280 (hr0).1 rfl (q_X10_qDrops (hr0) e113) (by decide) ?_
        refine k9_goto fX10_qGoesOn_283 rfl ?_
        cases h
        exact h0 rfl
      · replace h := ite_t (Classical.not_not.mp c109) h
        refine t_l fX10_qGoesOn_271 rfl rfl rfl rfl ?_
        refine t_s fX10_qGoesOn_272 rfl rfl rfl ?_
        obtain ⟨V114, v115, e116, h⟩ := bd_some h
        refine kcX10_qIsOn fX10_qGoesOn_273 (hr0).1 rfl (q_X10_qIsOn (hr0) e116) (by decide) ?_
        obtain ⟨g118, h⟩ := gd_some h
        refine k9_if_eq fX10_qGoesOn_276 rfl g118 (fun c117 => ?_) (fun c117 => ?_)
        · replace h := ite_t (c117) h
          cases h
          exact h1 rfl
        · replace h := ite_f (c117) h
          refine t_l fX10_qGoesOn_279 rfl rfl rfl rfl ?_
          obtain ⟨V119, v120, e121, h⟩ := bd_some h
          refine kcX10_qDrops fX10_qGoesOn_280 (hr0).1 rfl (q_X10_qDrops (hr0) e121) (by decide) ?_
          refine k9_goto fX10_qGoesOn_283 rfl ?_
          cases h
          exact h0 rfl

theorem tl_X10_qGoesOn_247 {X : mX} {n z : Nat} {G : mG} {r0 : Nat} (hr0 : is10 G r0) {x1 : Int} {V V' : mV} {fu : Nat} {q : Nat × Unit} {Q : Nat → Nat → mG → mV → Option Value → Prop} (k1 : q.1 = 1 → T X (3) 264 286 [some (.ref r0), some (.int (iI x1))] [] n z G V' Q) (h : lp (fun (s : Unit) V => B_X10_qGoesOn_247 G r0 x1  V) fu () V = some (V', q)) : T X (3) 264 247 [some (.ref r0), some (.int (iI x1))] [] n z G V Q :=
  lp_go (P0 := fun s V => T X (3) 264 247 [some (.ref r0), some (.int (iI x1))] [] n z G V Q) (PE := fun t s V => (t = 1 → T X (3) 264 286 [some (.ref r0), some (.int (iI x1))] [] n z G V Q)) (fun s V V' q hb h0 h1 => tb_X10_qGoesOn_247 hr0  h0 (fun e => (h1 (by omega)) e) hb) fu () V V' q h k1

theorem tj_X10_qGoesOn_J246 {X : mX} {n z : Nat} {G : mG} {r0 : Nat} (hr0 : is10 G r0) {s0 : Int} {j1 : Option Value} {V V' : mV} {v : Int} (h : F_X10_qGoesOn_J246 G r0 s0 V = some (V', v)) : T X (3) 264 246 [some (.ref r0), j1] [.int (iI s0)] n z G V (qi n z G V' v) := by
  unfold F_X10_qGoesOn_J246 at h
  refine t_l fX10_qGoesOn_246 rfl rfl rfl rfl ?_
  obtain ⟨V122, u123, e124, h⟩ := bd_some h
  refine tl_X10_qGoesOn_247 hr0  (fun e125 => ?_) e124
  refine t_l fX10_qGoesOn_286 rfl rfl rfl rfl ?_
  refine k9_gr fX10_qGoesOn_287 (hr0).1 kg_10_99 (s10_99r hr0) ?_
  refine t_l fX10_qGoesOn_290 rfl rfl rfl rfl ?_
  refine k9_gi fX10_qGoesOn_291 (hr0).1 kg_10_100 ?_
  refine t_l fX10_qGoesOn_294 rfl rfl rfl rfl ?_
  obtain ⟨g126, h⟩ := gd_some h
  refine k9_is fX10_qGoesOn_295 (s10_99s hr0) g126.1 g126.2.1 g126.2.2 ?_
  replace h := lt_some h
  refine t_l fX10_qGoesOn_296 rfl rfl rfl rfl ?_
  refine t_s fX10_qGoesOn_297 rfl rfl rfl ?_
  refine k9_gi fX10_qGoesOn_298 (hr0).1 kg_10_100 ?_
  refine t_s fX10_qGoesOn_301 rfl rfl rfl ?_
  refine k9_iadd fX10_qGoesOn_302 ?_
  refine k9_pi fX10_qGoesOn_303 (hr0).1 kp_10_100 ?_
  replace h := lt_some h
  refine t_s fX10_qGoesOn_306 rfl rfl rfl ?_
  refine t_ret fX10_qGoesOn_307 (rX10_qGoesOn _ (by decide)) ?_
  exact qf_i h

theorem tj_X10_qGoesOn_J225 {X : mX} {n z : Nat} {G : mG} {r0 : Nat} (hr0 : is10 G r0) {j1 : Option Value} {V V' : mV} {v : Int} (h : F_X10_qGoesOn_J225 G r0 V = some (V', v)) : T X (3) 264 225 [some (.ref r0), j1] [] n z G V (qi n z G V' v) := by
  unfold F_X10_qGoesOn_J225 at h
  refine t_l fX10_qGoesOn_225 rfl rfl rfl rfl ?_
  refine k9_gr fX10_qGoesOn_226 (hr0).1 kg_10_0 (s10_0r hr0) ?_
  refine t_l fX10_qGoesOn_229 rfl rfl rfl rfl ?_
  refine k9_gi fX10_qGoesOn_230 (hr0).1 kg_10_2 ?_
  refine t_s fX10_qGoesOn_233 rfl rfl rfl ?_
  refine k9_isub fX10_qGoesOn_234 ?_
  obtain ⟨g87, h⟩ := gd_some h
  refine k9_ia fX10_qGoesOn_235 (s10_0s hr0) g87.1 g87.2.1 g87.2.2 ?_
  refine t_s fX10_qGoesOn_236 rfl rfl rfl ?_
  obtain ⟨g89, h⟩ := gd_some h
  refine k9_ic_ne fX10_qGoesOn_238 rfl g89 ⟨by decide, by decide⟩ (fun c88 => ?_) (fun c88 => ?_)
  · replace h := ite_f (c88) h
    refine t_s fX10_qGoesOn_245 rfl rfl rfl ?_
    exact tj_X10_qGoesOn_J246 hr0   h
  · replace h := ite_t (Classical.not_not.mp c88) h
    refine t_s fX10_qGoesOn_241 rfl rfl rfl ?_
    refine k9_goto fX10_qGoesOn_242 rfl ?_
    exact tj_X10_qGoesOn_J246 hr0   h

theorem tj_X10_qGoesOn_J326 {X : mX} {n z : Nat} {G : mG} {r0 : Nat} (hr0 : is10 G r0) {j1 : Option Value} {V V' : mV} {v : Int} (h : F_X10_qGoesOn_J326 G r0 V = some (V', v)) : T X (3) 264 326 [some (.ref r0), j1] [] n z G V (qi n z G V' v) := by
  unfold F_X10_qGoesOn_J326 at h
  refine t_l fX10_qGoesOn_326 rfl rfl rfl rfl ?_
  refine t_s fX10_qGoesOn_327 rfl rfl rfl ?_
  obtain ⟨V139, v140, e141, h⟩ := bd_some h
  refine kcX10_asksSign fX10_qGoesOn_329 (hr0).1 rfl (q_X10_asksSign (hr0) e141) (by decide) ?_
  refine t_l fX10_qGoesOn_332 rfl rfl rfl rfl ?_
  refine k9_gi fX10_qGoesOn_333 (hr0).1 kg_10_5 ?_
  obtain ⟨g143, h⟩ := gd_some h
  refine k9_if_eq fX10_qGoesOn_336 rfl g143 (fun c142 => ?_) (fun c142 => ?_)
  · replace h := ite_t (c142) h
    refine t_l fX10_qGoesOn_341 rfl rfl rfl rfl ?_
    obtain ⟨V144, v145, e146, h⟩ := bd_some h
    refine kcX10_qDropsToBracket fX10_qGoesOn_342 (hr0).1 rfl (q_X10_qDropsToBracket (hr0) e146) (by decide) ?_
    refine t_l fX10_qGoesOn_345 rfl rfl rfl rfl ?_
    refine k9_gr fX10_qGoesOn_346 (hr0).1 kg_10_99 (s10_99r hr0) ?_
    refine t_l fX10_qGoesOn_349 rfl rfl rfl rfl ?_
    refine k9_gi fX10_qGoesOn_350 (hr0).1 kg_10_100 ?_
    refine t_s fX10_qGoesOn_353 rfl rfl rfl ?_
    refine k9_isub fX10_qGoesOn_354 ?_
    refine t_s fX10_qGoesOn_355 rfl rfl rfl ?_
    obtain ⟨g147, h⟩ := gd_some h
    refine k9_ia fX10_qGoesOn_356 (s10_99s hr0) g147.1 g147.2.1 g147.2.2 ?_
    refine t_s fX10_qGoesOn_357 rfl rfl rfl ?_
    refine k9_iadd fX10_qGoesOn_358 ?_
    refine k9_is fX10_qGoesOn_359 (s10_99s hr0) g147.1 g147.2.1 g147.2.2 ?_
    replace h := lt_some h
    refine t_s fX10_qGoesOn_360 rfl rfl rfl ?_
    refine t_ret fX10_qGoesOn_361 (rX10_qGoesOn _ (by decide)) ?_
    exact qf_i h
  · replace h := ite_f (c142) h
    refine t_s fX10_qGoesOn_339 rfl rfl rfl ?_
    refine t_ret fX10_qGoesOn_340 (rX10_qGoesOn _ (by decide)) ?_
    exact qf_i h

theorem tj_X10_qGoesOn_J122 {X : mX} {n z : Nat} {G : mG} {r0 : Nat} (hr0 : is10 G r0) {j1 : Option Value} {V V' : mV} {v : Int} (h : F_X10_qGoesOn_J122 G r0 V = some (V', v)) : T X (3) 264 122 [some (.ref r0), j1] [] n z G V (qi n z G V' v) := by
  unfold F_X10_qGoesOn_J122 at h
  refine t_l fX10_qGoesOn_122 rfl rfl rfl rfl ?_
  refine t_s fX10_qGoesOn_123 rfl rfl rfl ?_
  obtain ⟨V46, v47, e48, h⟩ := bd_some h
  refine kcX10_takesSign fX10_qGoesOn_125 (hr0).1 rfl (q_X10_takesSign (hr0) e48) (by decide) ?_
  obtain ⟨g50, h⟩ := gd_some h
  refine k9_if_ne fX10_qGoesOn_128 rfl g50 (fun c49 => ?_) (fun c49 => ?_)
  · replace h := ite_f (c49) h
    exact tj_X10_qGoesOn_J140 hr0   h
  · replace h := ite_t (Classical.not_not.mp c49) h
    refine t_l fX10_qGoesOn_131 rfl rfl rfl rfl ?_
    refine t_s fX10_qGoesOn_132 rfl rfl rfl ?_
    obtain ⟨V77, v78, e79, h⟩ := bd_some h
    refine kcX10_takesSign fX10_qGoesOn_134 (hr0).1 rfl (q_X10_takesSign (hr0) e79) (by decide) ?_
    obtain ⟨g81, h⟩ := gd_some h
    refine k9_if_eq fX10_qGoesOn_137 rfl g81 (fun c80 => ?_) (fun c80 => ?_)
    · replace h := ite_t (c80) h
      refine t_l fX10_qGoesOn_207 rfl rfl rfl rfl ?_
      refine t_s fX10_qGoesOn_208 rfl rfl rfl ?_
      obtain ⟨V82, v83, e84, h⟩ := bd_some h
      refine kcX10_takesSign fX10_qGoesOn_210 (hr0).1 rfl (q_X10_takesSign (hr0) e84) (by decide) ?_
      obtain ⟨g86, h⟩ := gd_some h
      refine k9_if_ne fX10_qGoesOn_213 rfl g86 (fun c85 => ?_) (fun c85 => ?_)
      · replace h := ite_f (c85) h
        exact tj_X10_qGoesOn_J225 hr0   h
      · replace h := ite_t (Classical.not_not.mp c85) h
        refine t_l fX10_qGoesOn_216 rfl rfl rfl rfl ?_
        refine t_s fX10_qGoesOn_217 rfl rfl rfl ?_
        obtain ⟨V129, v130, e131, h⟩ := bd_some h
        refine kcX10_takesSign fX10_qGoesOn_219 (hr0).1 rfl (q_X10_takesSign (hr0) e131) (by decide) ?_
        obtain ⟨g133, h⟩ := gd_some h
        refine k9_if_eq fX10_qGoesOn_222 rfl g133 (fun c132 => ?_) (fun c132 => ?_)
        · replace h := ite_t (c132) h
          refine t_l fX10_qGoesOn_308 rfl rfl rfl rfl ?_
          obtain ⟨V134, v135, e136, h⟩ := bd_some h
          refine kcX10_qBracket fX10_qGoesOn_309 (hr0).1 rfl (q_X10_qBracket (hr0) e136) (by decide) ?_
          refine t_s fX10_qGoesOn_312 rfl rfl rfl ?_
          obtain ⟨g138, h⟩ := gd_some h
          refine k9_ic_eq fX10_qGoesOn_314 rfl g138 ⟨by decide, by decide⟩ (fun c137 => ?_) (fun c137 => ?_)
          · replace h := ite_t (c137) h
            exact tj_X10_qGoesOn_J326 hr0   h
          · replace h := ite_f (c137) h
            refine t_l fX10_qGoesOn_317 rfl rfl rfl rfl ?_
            obtain ⟨V149, v150, e151, h⟩ := bd_some h
            refine kcX10_qBracket fX10_qGoesOn_318 (hr0).1 rfl (q_X10_qBracket (hr0) e151) (by decide) ?_
            refine t_s fX10_qGoesOn_321 rfl rfl rfl ?_
            obtain ⟨g153, h⟩ := gd_some h
            refine k9_ic_ne fX10_qGoesOn_323 rfl g153 ⟨by decide, by decide⟩ (fun c152 => ?_) (fun c152 => ?_)
            · replace h := ite_f (c152) h
              refine t_l fX10_qGoesOn_362 rfl rfl rfl rfl ?_
              obtain ⟨V154, v155, e156, h⟩ := bd_some h
              refine kcX10_qBracket fX10_qGoesOn_363 (hr0).1 rfl (q_X10_qBracket (hr0) e156) (by decide) ?_
              refine t_s fX10_qGoesOn_366 rfl rfl rfl ?_
              obtain ⟨g158, h⟩ := gd_some h
              refine k9_ic_eq fX10_qGoesOn_367 rfl g158 ⟨by decide, by decide⟩ (fun c157 => ?_) (fun c157 => ?_)
              · replace h := ite_t (c157) h
                refine t_s fX10_qGoesOn_386 rfl rfl rfl ?_
                refine t_ret fX10_qGoesOn_387 (rX10_qGoesOn _ (by decide)) ?_
                exact qf_i h
              · replace h := ite_f (c157) h
                refine t_l fX10_qGoesOn_370 rfl rfl rfl rfl ?_
                refine k9_gi fX10_qGoesOn_371 (hr0).1 kg_10_5 ?_
                obtain ⟨g160, h⟩ := gd_some h
                refine k9_if_ne fX10_qGoesOn_374 rfl g160 (fun c159 => ?_) (fun c159 => ?_)
                · replace h := ite_f (c159) h
                  refine t_s fX10_qGoesOn_386 rfl rfl rfl ?_
                  refine t_ret fX10_qGoesOn_387 (rX10_qGoesOn _ (by decide)) ?_
                  exact qf_i h
                · replace h := ite_t (Classical.not_not.mp c159) h
                  refine t_l fX10_qGoesOn_377 rfl rfl rfl rfl ?_
                  refine t_s fX10_qGoesOn_378 rfl rfl rfl ?_
                  refine t_l fX10_qGoesOn_379 rfl rfl rfl rfl ?_
                  refine k9_gi fX10_qGoesOn_380 (hr0).1 kg_10_2 ?_
                  obtain ⟨V161, v162, e163, h⟩ := bd_some h
                  refine kcX10_fail fX10_qGoesOn_383 (hr0).1 rfl (q_X10_fail (hr0) e163) (by decide) ?_
                  refine t_s fX10_qGoesOn_386 rfl rfl rfl ?_
                  refine t_ret fX10_qGoesOn_387 (rX10_qGoesOn _ (by decide)) ?_
                  exact qf_i h
            · replace h := ite_t (Classical.not_not.mp c152) h
              exact tj_X10_qGoesOn_J326 hr0   h
        · replace h := ite_f (c132) h
          exact tj_X10_qGoesOn_J225 hr0   h
    · replace h := ite_f (c80) h
      exact tj_X10_qGoesOn_J140 hr0   h

theorem q_X10_qGoesOn {X : mX} {n z : Nat} {G : mG} {r0 : Nat} (hr0 : is10 G r0) {V V' : mV} {v : Int} (h : F_X10_qGoesOn G r0 V = some (V', v)) : Rn X (3) 264 [.ref r0] n z G V n z G V' (some (.int (iI v))) := by
  refine qi_toR (v := v) (L := [some (.ref r0), none]) rfl ?_
  unfold F_X10_qGoesOn at h
  obtain ⟨V42, u43, e44, h⟩ := bd_some h
  refine tl_X10_qGoesOn_0 hr0  (fun e45 j1 => ?_) e44
  exact tj_X10_qGoesOn_J122 hr0   h

theorem q_X10_qAsksWord {X : mX} {n z : Nat} {G : mG} {r0 : Nat} (hr0 : is10 G r0) {x1 : Int} {V V' : mV} {v : Int} (h : F_X10_qAsksWord G r0 x1 V = some (V', v)) : Rn X (4) 261 [.ref r0, .int (iI x1)] n z G V n z G V' none := by
  refine qv_toR (v := v) (L := [some (.ref r0), some (.int (iI x1))]) rfl ?_
  unfold F_X10_qAsksWord at h
  refine t_l fX10_qAsksWord_0 rfl rfl rfl rfl ?_
  obtain ⟨g1, h⟩ := gd_some h
  by_cases c2 : x1 = 0
  · replace h := ite_t c2 h
    refine k9_sw 56 fX10_qAsksWord_1 g1 (by rw [c2]; rfl) (by rw [c2]; exact Or.inr (Or.inr rfl)) ?_
    refine t_l fX10_qAsksWord_56 rfl rfl rfl rfl ?_
    refine t_l fX10_qAsksWord_57 rfl rfl rfl rfl ?_
    refine k9_gr fX10_qAsksWord_58 (hr0).1 kg_10_87 (s10_87r hr0) ?_
    obtain ⟨V3, v4, e5, h⟩ := bd_some h
    refine kcX10_asks fX10_qAsksWord_61 (hr0).1 rfl rfl (q_X10_asks (hr0) (qGf (s10_87s hr0)) e5) (by decide) ?_
    refine k9_goto fX10_qAsksWord_64 rfl ?_
    refine t_ret fX10_qAsksWord_174 rX10_qAsksWord ?_
    exact qf_v h
  replace h := ite_f c2 h
  by_cases c6 : x1 = 1
  · replace h := ite_t c6 h
    refine k9_sw 67 fX10_qAsksWord_1 g1 (by rw [c6]; rfl) (by rw [c6]; exact Or.inr (Or.inr rfl)) ?_
    refine t_l fX10_qAsksWord_67 rfl rfl rfl rfl ?_
    refine t_l fX10_qAsksWord_68 rfl rfl rfl rfl ?_
    refine k9_gr fX10_qAsksWord_69 (hr0).1 kg_10_88 (s10_88r hr0) ?_
    obtain ⟨V7, v8, e9, h⟩ := bd_some h
    refine kcX10_asks fX10_qAsksWord_72 (hr0).1 rfl rfl (q_X10_asks (hr0) (qGf (s10_88s hr0)) e9) (by decide) ?_
    refine k9_goto fX10_qAsksWord_75 rfl ?_
    refine t_ret fX10_qAsksWord_174 rX10_qAsksWord ?_
    exact qf_v h
  replace h := ite_f c6 h
  by_cases c10 : x1 = 2
  · replace h := ite_t c10 h
    refine k9_sw 78 fX10_qAsksWord_1 g1 (by rw [c10]; rfl) (by rw [c10]; exact Or.inr (Or.inr rfl)) ?_
    refine t_l fX10_qAsksWord_78 rfl rfl rfl rfl ?_
    refine t_l fX10_qAsksWord_79 rfl rfl rfl rfl ?_
    refine k9_gr fX10_qAsksWord_80 (hr0).1 kg_10_89 (s10_89r hr0) ?_
    obtain ⟨V11, v12, e13, h⟩ := bd_some h
    refine kcX10_asks fX10_qAsksWord_83 (hr0).1 rfl rfl (q_X10_asks (hr0) (qGf (s10_89s hr0)) e13) (by decide) ?_
    refine k9_goto fX10_qAsksWord_86 rfl ?_
    refine t_ret fX10_qAsksWord_174 rX10_qAsksWord ?_
    exact qf_v h
  replace h := ite_f c10 h
  by_cases c14 : x1 = 3
  · replace h := ite_t c14 h
    refine k9_sw 89 fX10_qAsksWord_1 g1 (by rw [c14]; rfl) (by rw [c14]; exact Or.inr (Or.inr rfl)) ?_
    refine t_l fX10_qAsksWord_89 rfl rfl rfl rfl ?_
    refine t_l fX10_qAsksWord_90 rfl rfl rfl rfl ?_
    refine k9_gr fX10_qAsksWord_91 (hr0).1 kg_10_90 (s10_90r hr0) ?_
    obtain ⟨V15, v16, e17, h⟩ := bd_some h
    refine kcX10_asks fX10_qAsksWord_94 (hr0).1 rfl rfl (q_X10_asks (hr0) (qGf (s10_90s hr0)) e17) (by decide) ?_
    refine k9_goto fX10_qAsksWord_97 rfl ?_
    refine t_ret fX10_qAsksWord_174 rX10_qAsksWord ?_
    exact qf_v h
  replace h := ite_f c14 h
  by_cases c18 : x1 = 4
  · replace h := ite_t c18 h
    refine k9_sw 100 fX10_qAsksWord_1 g1 (by rw [c18]; rfl) (by rw [c18]; exact Or.inr (Or.inr rfl)) ?_
    refine t_l fX10_qAsksWord_100 rfl rfl rfl rfl ?_
    refine t_l fX10_qAsksWord_101 rfl rfl rfl rfl ?_
    refine k9_gr fX10_qAsksWord_102 (hr0).1 kg_10_91 (s10_91r hr0) ?_
    obtain ⟨V19, v20, e21, h⟩ := bd_some h
    refine kcX10_asks fX10_qAsksWord_105 (hr0).1 rfl rfl (q_X10_asks (hr0) (qGf (s10_91s hr0)) e21) (by decide) ?_
    refine k9_goto fX10_qAsksWord_108 rfl ?_
    refine t_ret fX10_qAsksWord_174 rX10_qAsksWord ?_
    exact qf_v h
  replace h := ite_f c18 h
  by_cases c22 : x1 = 5
  · replace h := ite_t c22 h
    refine k9_sw 111 fX10_qAsksWord_1 g1 (by rw [c22]; rfl) (by rw [c22]; exact Or.inr (Or.inr rfl)) ?_
    refine t_l fX10_qAsksWord_111 rfl rfl rfl rfl ?_
    refine t_l fX10_qAsksWord_112 rfl rfl rfl rfl ?_
    refine k9_gr fX10_qAsksWord_113 (hr0).1 kg_10_92 (s10_92r hr0) ?_
    obtain ⟨V23, v24, e25, h⟩ := bd_some h
    refine kcX10_asks fX10_qAsksWord_116 (hr0).1 rfl rfl (q_X10_asks (hr0) (qGf (s10_92s hr0)) e25) (by decide) ?_
    refine k9_goto fX10_qAsksWord_119 rfl ?_
    refine t_ret fX10_qAsksWord_174 rX10_qAsksWord ?_
    exact qf_v h
  replace h := ite_f c22 h
  by_cases c26 : x1 = 6
  · replace h := ite_t c26 h
    refine k9_sw 122 fX10_qAsksWord_1 g1 (by rw [c26]; rfl) (by rw [c26]; exact Or.inr (Or.inr rfl)) ?_
    refine t_l fX10_qAsksWord_122 rfl rfl rfl rfl ?_
    refine t_l fX10_qAsksWord_123 rfl rfl rfl rfl ?_
    refine k9_gr fX10_qAsksWord_124 (hr0).1 kg_10_93 (s10_93r hr0) ?_
    obtain ⟨V27, v28, e29, h⟩ := bd_some h
    refine kcX10_asks fX10_qAsksWord_127 (hr0).1 rfl rfl (q_X10_asks (hr0) (qGf (s10_93s hr0)) e29) (by decide) ?_
    refine k9_goto fX10_qAsksWord_130 rfl ?_
    refine t_ret fX10_qAsksWord_174 rX10_qAsksWord ?_
    exact qf_v h
  replace h := ite_f c26 h
  by_cases c30 : x1 = 7
  · replace h := ite_t c30 h
    refine k9_sw 133 fX10_qAsksWord_1 g1 (by rw [c30]; rfl) (by rw [c30]; exact Or.inr (Or.inr rfl)) ?_
    refine t_l fX10_qAsksWord_133 rfl rfl rfl rfl ?_
    refine t_l fX10_qAsksWord_134 rfl rfl rfl rfl ?_
    refine k9_gr fX10_qAsksWord_135 (hr0).1 kg_10_94 (s10_94r hr0) ?_
    obtain ⟨V31, v32, e33, h⟩ := bd_some h
    refine kcX10_asks fX10_qAsksWord_138 (hr0).1 rfl rfl (q_X10_asks (hr0) (qGf (s10_94s hr0)) e33) (by decide) ?_
    refine k9_goto fX10_qAsksWord_141 rfl ?_
    refine t_ret fX10_qAsksWord_174 rX10_qAsksWord ?_
    exact qf_v h
  replace h := ite_f c30 h
  by_cases c34 : x1 = 8
  · replace h := ite_t c34 h
    refine k9_sw 144 fX10_qAsksWord_1 g1 (by rw [c34]; rfl) (by rw [c34]; exact Or.inr (Or.inr rfl)) ?_
    refine t_l fX10_qAsksWord_144 rfl rfl rfl rfl ?_
    refine t_l fX10_qAsksWord_145 rfl rfl rfl rfl ?_
    refine k9_gr fX10_qAsksWord_146 (hr0).1 kg_10_95 (s10_95r hr0) ?_
    obtain ⟨V35, v36, e37, h⟩ := bd_some h
    refine kcX10_asks fX10_qAsksWord_149 (hr0).1 rfl rfl (q_X10_asks (hr0) (qGf (s10_95s hr0)) e37) (by decide) ?_
    refine k9_goto fX10_qAsksWord_152 rfl ?_
    refine t_ret fX10_qAsksWord_174 rX10_qAsksWord ?_
    exact qf_v h
  replace h := ite_f c34 h
  by_cases c38 : x1 = 9
  · replace h := ite_t c38 h
    refine k9_sw 155 fX10_qAsksWord_1 g1 (by rw [c38]; rfl) (by rw [c38]; exact Or.inr (Or.inr rfl)) ?_
    refine t_l fX10_qAsksWord_155 rfl rfl rfl rfl ?_
    refine t_l fX10_qAsksWord_156 rfl rfl rfl rfl ?_
    refine k9_gr fX10_qAsksWord_157 (hr0).1 kg_10_96 (s10_96r hr0) ?_
    obtain ⟨V39, v40, e41, h⟩ := bd_some h
    refine kcX10_asks fX10_qAsksWord_160 (hr0).1 rfl rfl (q_X10_asks (hr0) (qGf (s10_96s hr0)) e41) (by decide) ?_
    refine k9_goto fX10_qAsksWord_163 rfl ?_
    refine t_ret fX10_qAsksWord_174 rX10_qAsksWord ?_
    exact qf_v h
  replace h := ite_f c38 h
  have hd1 : (x1 < 0 ∨ 9 < x1) := by omega
  refine k9_sw 166 fX10_qAsksWord_1 g1 (by rw [if_pos hd1]; rfl) (by omega) ?_
  refine t_l fX10_qAsksWord_166 rfl rfl rfl rfl ?_
  refine t_l fX10_qAsksWord_167 rfl rfl rfl rfl ?_
  refine k9_gr fX10_qAsksWord_168 (hr0).1 kg_10_89 (s10_89r hr0) ?_
  obtain ⟨V42, v43, e44, h⟩ := bd_some h
  refine kcX10_asks fX10_qAsksWord_171 (hr0).1 rfl rfl (q_X10_asks (hr0) (qGf (s10_89s hr0)) e44) (by decide) ?_
  refine t_ret fX10_qAsksWord_174 rX10_qAsksWord ?_
  exact qf_v h

theorem q_X10_qOpens {X : mX} {n z : Nat} {G : mG} {r0 : Nat} (hr0 : is10 G r0) {x1 x2 : Int} {V V' : mV} {v : Int} (h : F_X10_qOpens G r0 x1 x2 V = some (V', v)) : Rn X (1) 253 [.ref r0, .int (iI x1), .int (iI x2)] n z G V n z G V' none := by
  refine qv_toR (v := v) (L := [some (.ref r0), some (.int (iI x1)), some (.int (iI x2))]) rfl ?_
  unfold F_X10_qOpens at h
  refine t_l fX10_qOpens_0 rfl rfl rfl rfl ?_
  refine k9_gi fX10_qOpens_1 (hr0).1 kg_10_5 ?_
  obtain ⟨g2, h⟩ := gd_some h
  refine k9_if_eq fX10_qOpens_4 rfl g2 (fun c1 => ?_) (fun c1 => ?_)
  · replace h := ite_t (c1) h
    refine t_l fX10_qOpens_8 rfl rfl rfl rfl ?_
    refine k9_gi fX10_qOpens_9 (hr0).1 kg_10_101 ?_
    refine t_s fX10_qOpens_12 rfl rfl rfl ?_
    obtain ⟨g4, h⟩ := gd_some h
    refine k9_ic_ne fX10_qOpens_14 rfl g4 ⟨by decide, by decide⟩ (fun c3 => ?_) (fun c3 => ?_)
    · replace h := ite_f (c3) h
      refine t_l fX10_qOpens_24 rfl rfl rfl rfl ?_
      refine t_s fX10_qOpens_25 rfl rfl rfl ?_
      refine k9_gi fX10_qOpens_26 (hr0).1 kg_10_101 ?_
      refine t_s fX10_qOpens_29 rfl rfl rfl ?_
      refine k9_iadd fX10_qOpens_30 ?_
      refine k9_pi fX10_qOpens_31 (hr0).1 kp_10_101 ?_
      replace h := lt_some h
      refine t_l fX10_qOpens_34 rfl rfl rfl rfl ?_
      refine k9_gr fX10_qOpens_35 (hr0).1 kg_10_99 (s10_99r hr0) ?_
      refine t_l fX10_qOpens_38 rfl rfl rfl rfl ?_
      refine k9_gi fX10_qOpens_39 (hr0).1 kg_10_100 ?_
      refine t_l fX10_qOpens_42 rfl rfl rfl rfl ?_
      obtain ⟨g6, h⟩ := gd_some h
      refine k9_is fX10_qOpens_43 (s10_99s hr0) g6.1 g6.2.1 g6.2.2 ?_
      replace h := lt_some h
      refine t_l fX10_qOpens_44 rfl rfl rfl rfl ?_
      refine t_s fX10_qOpens_45 rfl rfl rfl ?_
      refine k9_gi fX10_qOpens_46 (hr0).1 kg_10_100 ?_
      refine t_s fX10_qOpens_49 rfl rfl rfl ?_
      refine k9_iadd fX10_qOpens_50 ?_
      refine k9_pi fX10_qOpens_51 (hr0).1 kp_10_100 ?_
      replace h := lt_some h
      refine t_ret fX10_qOpens_54 rX10_qOpens ?_
      exact qf_v h
    · replace h := ite_t (Classical.not_not.mp c3) h
      refine t_l fX10_qOpens_17 rfl rfl rfl rfl ?_
      refine t_s fX10_qOpens_18 rfl rfl rfl ?_
      refine t_l fX10_qOpens_19 rfl rfl rfl rfl ?_
      obtain ⟨V9, v10, e11, h⟩ := bd_some h
      refine kcX10_fail fX10_qOpens_20 (hr0).1 rfl (q_X10_fail (hr0) e11) (by decide) ?_
      refine t_ret fX10_qOpens_23 rX10_qOpens ?_
      exact qf_v h
  · replace h := ite_f (c1) h
    refine t_ret fX10_qOpens_7 rX10_qOpens ?_
    exact qf_v h

theorem q_X10_qWordHere {X : mX} {n z : Nat} {G : mG} {r0 : Nat} (hr0 : is10 G r0) {V V' : mV} {v : Int} (h : F_X10_qWordHere G r0 V = some (V', v)) : Rn X (2) 259 [.ref r0] n z G V n z G V' (some (.int (iI v))) := by
  refine qi_toR (v := v) (L := [some (.ref r0)]) rfl ?_
  unfold F_X10_qWordHere at h
  refine t_l fX10_qWordHere_0 rfl rfl rfl rfl ?_
  refine t_l fX10_qWordHere_1 rfl rfl rfl rfl ?_
  refine k9_gr fX10_qWordHere_2 (hr0).1 kg_10_87 (s10_87r hr0) ?_
  obtain ⟨V1, v2, e3, h⟩ := bd_some h
  refine kcX10_isHere fX10_qWordHere_5 (hr0).1 rfl rfl (q_X10_isHere (hr0) (qGf (s10_87s hr0)) e3) (by decide) ?_
  obtain ⟨g5, h⟩ := gd_some h
  refine k9_if_eq fX10_qWordHere_8 rfl g5 (fun c4 => ?_) (fun c4 => ?_)
  · replace h := ite_t (c4) h
    refine t_l fX10_qWordHere_13 rfl rfl rfl rfl ?_
    refine t_l fX10_qWordHere_14 rfl rfl rfl rfl ?_
    refine k9_gr fX10_qWordHere_15 (hr0).1 kg_10_88 (s10_88r hr0) ?_
    obtain ⟨V6, v7, e8, h⟩ := bd_some h
    refine kcX10_isHere fX10_qWordHere_18 (hr0).1 rfl rfl (q_X10_isHere (hr0) (qGf (s10_88s hr0)) e8) (by decide) ?_
    obtain ⟨g10, h⟩ := gd_some h
    refine k9_if_eq fX10_qWordHere_21 rfl g10 (fun c9 => ?_) (fun c9 => ?_)
    · replace h := ite_t (c9) h
      refine t_l fX10_qWordHere_26 rfl rfl rfl rfl ?_
      refine t_l fX10_qWordHere_27 rfl rfl rfl rfl ?_
      refine k9_gr fX10_qWordHere_28 (hr0).1 kg_10_89 (s10_89r hr0) ?_
      obtain ⟨V11, v12, e13, h⟩ := bd_some h
      refine kcX10_isHere fX10_qWordHere_31 (hr0).1 rfl rfl (q_X10_isHere (hr0) (qGf (s10_89s hr0)) e13) (by decide) ?_
      obtain ⟨g15, h⟩ := gd_some h
      refine k9_if_eq fX10_qWordHere_34 rfl g15 (fun c14 => ?_) (fun c14 => ?_)
      · replace h := ite_t (c14) h
        refine t_l fX10_qWordHere_52 rfl rfl rfl rfl ?_
        refine t_l fX10_qWordHere_53 rfl rfl rfl rfl ?_
        refine k9_gr fX10_qWordHere_54 (hr0).1 kg_10_90 (s10_90r hr0) ?_
        obtain ⟨V16, v17, e18, h⟩ := bd_some h
        refine kcX10_isHere fX10_qWordHere_57 (hr0).1 rfl rfl (q_X10_isHere (hr0) (qGf (s10_90s hr0)) e18) (by decide) ?_
        obtain ⟨g20, h⟩ := gd_some h
        refine k9_if_eq fX10_qWordHere_60 rfl g20 (fun c19 => ?_) (fun c19 => ?_)
        · replace h := ite_t (c19) h
          refine t_l fX10_qWordHere_65 rfl rfl rfl rfl ?_
          refine t_l fX10_qWordHere_66 rfl rfl rfl rfl ?_
          refine k9_gr fX10_qWordHere_67 (hr0).1 kg_10_91 (s10_91r hr0) ?_
          obtain ⟨V21, v22, e23, h⟩ := bd_some h
          refine kcX10_isHere fX10_qWordHere_70 (hr0).1 rfl rfl (q_X10_isHere (hr0) (qGf (s10_91s hr0)) e23) (by decide) ?_
          obtain ⟨g25, h⟩ := gd_some h
          refine k9_if_eq fX10_qWordHere_73 rfl g25 (fun c24 => ?_) (fun c24 => ?_)
          · replace h := ite_t (c24) h
            refine t_l fX10_qWordHere_78 rfl rfl rfl rfl ?_
            refine t_l fX10_qWordHere_79 rfl rfl rfl rfl ?_
            refine k9_gr fX10_qWordHere_80 (hr0).1 kg_10_92 (s10_92r hr0) ?_
            obtain ⟨V26, v27, e28, h⟩ := bd_some h
            refine kcX10_isHere fX10_qWordHere_83 (hr0).1 rfl rfl (q_X10_isHere (hr0) (qGf (s10_92s hr0)) e28) (by decide) ?_
            obtain ⟨g30, h⟩ := gd_some h
            refine k9_if_eq fX10_qWordHere_86 rfl g30 (fun c29 => ?_) (fun c29 => ?_)
            · replace h := ite_t (c29) h
              refine t_l fX10_qWordHere_91 rfl rfl rfl rfl ?_
              refine t_l fX10_qWordHere_92 rfl rfl rfl rfl ?_
              refine k9_gr fX10_qWordHere_93 (hr0).1 kg_10_93 (s10_93r hr0) ?_
              obtain ⟨V31, v32, e33, h⟩ := bd_some h
              refine kcX10_isHere fX10_qWordHere_96 (hr0).1 rfl rfl (q_X10_isHere (hr0) (qGf (s10_93s hr0)) e33) (by decide) ?_
              obtain ⟨g35, h⟩ := gd_some h
              refine k9_if_eq fX10_qWordHere_99 rfl g35 (fun c34 => ?_) (fun c34 => ?_)
              · replace h := ite_t (c34) h
                refine t_l fX10_qWordHere_105 rfl rfl rfl rfl ?_
                refine t_l fX10_qWordHere_106 rfl rfl rfl rfl ?_
                refine k9_gr fX10_qWordHere_107 (hr0).1 kg_10_94 (s10_94r hr0) ?_
                obtain ⟨V36, v37, e38, h⟩ := bd_some h
                refine kcX10_isHere fX10_qWordHere_110 (hr0).1 rfl rfl (q_X10_isHere (hr0) (qGf (s10_94s hr0)) e38) (by decide) ?_
                obtain ⟨g40, h⟩ := gd_some h
                refine k9_if_eq fX10_qWordHere_113 rfl g40 (fun c39 => ?_) (fun c39 => ?_)
                · replace h := ite_t (c39) h
                  refine t_l fX10_qWordHere_119 rfl rfl rfl rfl ?_
                  refine t_l fX10_qWordHere_120 rfl rfl rfl rfl ?_
                  refine k9_gr fX10_qWordHere_121 (hr0).1 kg_10_95 (s10_95r hr0) ?_
                  obtain ⟨V41, v42, e43, h⟩ := bd_some h
                  refine kcX10_isHere fX10_qWordHere_124 (hr0).1 rfl rfl (q_X10_isHere (hr0) (qGf (s10_95s hr0)) e43) (by decide) ?_
                  obtain ⟨g45, h⟩ := gd_some h
                  refine k9_if_eq fX10_qWordHere_127 rfl g45 (fun c44 => ?_) (fun c44 => ?_)
                  · replace h := ite_t (c44) h
                    refine t_l fX10_qWordHere_133 rfl rfl rfl rfl ?_
                    refine t_l fX10_qWordHere_134 rfl rfl rfl rfl ?_
                    refine k9_gr fX10_qWordHere_135 (hr0).1 kg_10_96 (s10_96r hr0) ?_
                    obtain ⟨V46, v47, e48, h⟩ := bd_some h
                    refine kcX10_isHere fX10_qWordHere_138 (hr0).1 rfl rfl (q_X10_isHere (hr0) (qGf (s10_96s hr0)) e48) (by decide) ?_
                    obtain ⟨g50, h⟩ := gd_some h
                    refine k9_if_eq fX10_qWordHere_141 rfl g50 (fun c49 => ?_) (fun c49 => ?_)
                    · replace h := ite_t (c49) h
                      refine t_s fX10_qWordHere_147 rfl rfl rfl ?_
                      refine t_ret fX10_qWordHere_148 rX10_qWordHere ?_
                      exact qf_i h
                    · replace h := ite_f (c49) h
                      refine t_s fX10_qWordHere_144 rfl rfl rfl ?_
                      refine t_ret fX10_qWordHere_146 rX10_qWordHere ?_
                      exact qf_i h
                  · replace h := ite_f (c44) h
                    refine t_s fX10_qWordHere_130 rfl rfl rfl ?_
                    refine t_ret fX10_qWordHere_132 rX10_qWordHere ?_
                    exact qf_i h
                · replace h := ite_f (c39) h
                  refine t_s fX10_qWordHere_116 rfl rfl rfl ?_
                  refine t_ret fX10_qWordHere_118 rX10_qWordHere ?_
                  exact qf_i h
              · replace h := ite_f (c34) h
                refine t_s fX10_qWordHere_102 rfl rfl rfl ?_
                refine t_ret fX10_qWordHere_104 rX10_qWordHere ?_
                exact qf_i h
            · replace h := ite_f (c29) h
              refine t_s fX10_qWordHere_89 rfl rfl rfl ?_
              refine t_ret fX10_qWordHere_90 rX10_qWordHere ?_
              exact qf_i h
          · replace h := ite_f (c24) h
            refine t_s fX10_qWordHere_76 rfl rfl rfl ?_
            refine t_ret fX10_qWordHere_77 rX10_qWordHere ?_
            exact qf_i h
        · replace h := ite_f (c19) h
          refine t_s fX10_qWordHere_63 rfl rfl rfl ?_
          refine t_ret fX10_qWordHere_64 rX10_qWordHere ?_
          exact qf_i h
      · replace h := ite_f (c14) h
        refine t_l fX10_qWordHere_37 rfl rfl rfl rfl ?_
        refine k9_gi fX10_qWordHere_38 (hr0).1 kg_10_48 ?_
        refine t_s fX10_qWordHere_41 rfl rfl rfl ?_
        obtain ⟨g52, h⟩ := gd_some h
        refine k9_ic_ne fX10_qWordHere_42 rfl g52 ⟨by decide, by decide⟩ (fun c51 => ?_) (fun c51 => ?_)
        · replace h := ite_f (c51) h
          refine t_s fX10_qWordHere_50 rfl rfl rfl ?_
          refine t_ret fX10_qWordHere_51 rX10_qWordHere ?_
          exact qf_i h
        · replace h := ite_t (Classical.not_not.mp c51) h
          refine t_s fX10_qWordHere_45 rfl rfl rfl ?_
          refine k9_goto fX10_qWordHere_47 rfl ?_
          refine t_ret fX10_qWordHere_51 rX10_qWordHere ?_
          exact qf_i h
    · replace h := ite_f (c9) h
      refine t_s fX10_qWordHere_24 rfl rfl rfl ?_
      refine t_ret fX10_qWordHere_25 rX10_qWordHere ?_
      exact qf_i h
  · replace h := ite_f (c4) h
    refine t_s fX10_qWordHere_11 rfl rfl rfl ?_
    refine t_ret fX10_qWordHere_12 rX10_qWordHere ?_
    exact qf_i h

theorem q_X10_qWordOf {X : mX} {n z : Nat} {G : mG} {r0 : Nat} (hr0 : is10 G r0) {x1 x2 : Int} {V V' : mV} {v : Int} (h : F_X10_qWordOf G r0 x1 x2 V = some (V', v)) : Rn X (3) 260 [.ref r0, .int (iI x1), .int (iI x2)] n z G V n z G V' (some (.int (iI v))) := by
  refine qi_toR (v := v) (L := [some (.ref r0), some (.int (iI x1)), some (.int (iI x2)), none]) rfl ?_
  unfold F_X10_qWordOf at h
  refine t_l fX10_qWordOf_0 rfl rfl rfl rfl ?_
  obtain ⟨V1, v2, e3, h⟩ := bd_some h
  refine kcX10_qWordHere fX10_qWordOf_1 (hr0).1 rfl (q_X10_qWordHere (hr0) e3) (by decide) ?_
  refine t_l fX10_qWordOf_4 rfl rfl rfl rfl ?_
  refine t_l fX10_qWordOf_5 rfl rfl rfl rfl ?_
  refine t_l fX10_qWordOf_6 rfl rfl rfl rfl ?_
  obtain ⟨g5, h⟩ := gd_some h
  obtain ⟨g6, h⟩ := gd_some h
  refine k9_ic_lt fX10_qWordOf_7 rfl g5 g6 (fun c4 => ?_) (fun c4 => ?_)
  · replace h := ite_t (c4) h
    refine t_s fX10_qWordOf_27 rfl rfl rfl ?_
    refine t_ret fX10_qWordOf_28 rX10_qWordOf ?_
    exact qf_i h
  · replace h := ite_f (c4) h
    refine t_l fX10_qWordOf_10 rfl rfl rfl rfl ?_
    refine t_l fX10_qWordOf_11 rfl rfl rfl rfl ?_
    obtain ⟨g8, h⟩ := gd_some h
    refine k9_ic_ge fX10_qWordOf_12 rfl g5 g8 (fun c7 => ?_) (fun c7 => ?_)
    · replace h := ite_t (c7) h
      refine t_s fX10_qWordOf_27 rfl rfl rfl ?_
      refine t_ret fX10_qWordOf_28 rX10_qWordOf ?_
      exact qf_i h
    · replace h := ite_f (c7) h
      refine t_l fX10_qWordOf_15 rfl rfl rfl rfl ?_
      refine t_l fX10_qWordOf_16 rfl rfl rfl rfl ?_
      obtain ⟨V9, v10, e11, h⟩ := bd_some h
      refine kcX10_isAllowed fX10_qWordOf_17 (hr0).1 rfl (q_X10_isAllowed (hr0) e11) (by decide) ?_
      obtain ⟨g13, h⟩ := gd_some h
      refine k9_if_eq fX10_qWordOf_20 rfl g13 (fun c12 => ?_) (fun c12 => ?_)
      · replace h := ite_t (c12) h
        refine t_s fX10_qWordOf_27 rfl rfl rfl ?_
        refine t_ret fX10_qWordOf_28 rX10_qWordOf ?_
        exact qf_i h
      · replace h := ite_f (c12) h
        refine t_l fX10_qWordOf_23 rfl rfl rfl rfl ?_
        refine k9_goto fX10_qWordOf_24 rfl ?_
        refine t_ret fX10_qWordOf_28 rX10_qWordOf ?_
        exact qf_i h

theorem tj_X10_qPartTold_J144_2 {X : mX} {n z : Nat} {G : mG} {r0 : Nat} (hr0 : is10 G r0) {x1 : Int} {j2 j3 j4 j5 : Option Value} {V V' : mV} {q : Nat × Int} {Q : Nat → Nat → mG → mV → Option Value → Prop} (h0 : q.1 = 0 → ∀ j2 j3 j4 j5 : Option Value, T X (5) 263 2 [some (.ref r0), some (.int (iI q.2)), j2, j3, j4, j5] [] n z G V' Q) (h1 : q.1 = 1 → ∀ j2 j3 j4 j5 : Option Value, T X (5) 263 186 [some (.ref r0), some (.int (iI q.2)), j2, j3, j4, j5] [] n z G V' Q) (h : F_X10_qPartTold_J144_2 G r0 x1 V = some (V', q)) : T X (5) 263 144 [some (.ref r0), some (.int (iI x1)), j2, j3, j4, j5] [] n z G V Q := by
  unfold F_X10_qPartTold_J144_2 at h
  refine t_l fX10_qPartTold_144 rfl rfl rfl rfl ?_
  refine t_s fX10_qPartTold_145 rfl rfl rfl ?_
  obtain ⟨V30, v31, e32, h⟩ := bd_some h
  refine kcX10_asksSign fX10_qPartTold_147 (hr0).1 rfl (q_X10_asksSign (hr0) e32) (by decide) ?_
  refine k9_goto fX10_qPartTold_150 rfl ?_
  refine k9_goto fX10_qPartTold_183 rfl ?_
  cases h
  exact h0 rfl _ _ _ _

theorem tj_X10_qPartTold_J139_2 {X : mX} {n z : Nat} {G : mG} {r0 : Nat} (hr0 : is10 G r0) {x1 x5 s1 : Int} {j2 j3 j4 : Option Value} {V V' : mV} {q : Nat × Int} {Q : Nat → Nat → mG → mV → Option Value → Prop} (h0 : q.1 = 0 → ∀ j2 j3 j4 j5 : Option Value, T X (5) 263 2 [some (.ref r0), some (.int (iI q.2)), j2, j3, j4, j5] [] n z G V' Q) (h1 : q.1 = 1 → ∀ j2 j3 j4 j5 : Option Value, T X (5) 263 186 [some (.ref r0), some (.int (iI q.2)), j2, j3, j4, j5] [] n z G V' Q) (h : F_X10_qPartTold_J139_2 G r0 x1 x5 s1 V = some (V', q)) : T X (5) 263 139 [some (.ref r0), some (.int (iI x1)), j2, j3, j4, some (.int (iI x5))] [.int (iI s1), .ref r0] n z G V Q := by
  unfold F_X10_qPartTold_J139_2 at h
  refine t_l fX10_qPartTold_139 rfl rfl rfl rfl ?_
  obtain ⟨V35, v36, e37, h⟩ := bd_some h
  refine kcX10_qOpens fX10_qPartTold_141 (hr0).1 rfl (q_X10_qOpens (hr0) e37) (by decide) ?_
  exact tj_X10_qPartTold_J144_2 hr0  h0 h1 h

theorem tj_X10_qPartTold_J118_2 {X : mX} {n z : Nat} {G : mG} {r0 : Nat} (hr0 : is10 G r0) {x1 x4 s0 : Int} {j2 j3 j5 : Option Value} {V V' : mV} {q : Nat × Int} {Q : Nat → Nat → mG → mV → Option Value → Prop} (h0 : q.1 = 0 → ∀ j2 j3 j4 j5 : Option Value, T X (5) 263 2 [some (.ref r0), some (.int (iI q.2)), j2, j3, j4, j5] [] n z G V' Q) (h1 : q.1 = 1 → ∀ j2 j3 j4 j5 : Option Value, T X (5) 263 186 [some (.ref r0), some (.int (iI q.2)), j2, j3, j4, j5] [] n z G V' Q) (h : F_X10_qPartTold_J118_2 G r0 x1 x4 s0 V = some (V', q)) : T X (5) 263 118 [some (.ref r0), some (.int (iI x1)), j2, j3, some (.int (iI x4)), j5] [.int (iI s0)] n z G V Q := by
  unfold F_X10_qPartTold_J118_2 at h
  refine t_l fX10_qPartTold_118 rfl rfl rfl rfl ?_
  refine t_l fX10_qPartTold_120 rfl rfl rfl rfl ?_
  refine t_s fX10_qPartTold_122 rfl rfl rfl ?_
  obtain ⟨g29, h⟩ := gd_some h
  refine k9_ic_eq fX10_qPartTold_123 rfl g29 ⟨by decide, by decide⟩ (fun c28 => ?_) (fun c28 => ?_)
  · replace h := ite_t (c28) h
    exact tj_X10_qPartTold_J144_2 hr0  h0 h1 h
  · replace h := ite_f (c28) h
    refine t_l fX10_qPartTold_126 rfl rfl rfl rfl ?_
    refine t_l fX10_qPartTold_127 rfl rfl rfl rfl ?_
    obtain ⟨g34, h⟩ := gd_some h
    refine k9_if_eq fX10_qPartTold_129 rfl g34 (fun c33 => ?_) (fun c33 => ?_)
    · replace h := ite_t (c33) h
      refine t_s fX10_qPartTold_137 rfl rfl rfl ?_
      exact tj_X10_qPartTold_J139_2 hr0  h0 h1 h
    · replace h := ite_f (c33) h
      refine t_s fX10_qPartTold_132 rfl rfl rfl ?_
      refine k9_goto fX10_qPartTold_134 rfl ?_
      exact tj_X10_qPartTold_J139_2 hr0  h0 h1 h

theorem tj_X10_qPartTold_J101_2 {X : mX} {n z : Nat} {G : mG} {r0 : Nat} (hr0 : is10 G r0) {x1 x4 : Int} {j2 j3 j5 : Option Value} {V V' : mV} {q : Nat × Int} {Q : Nat → Nat → mG → mV → Option Value → Prop} (h0 : q.1 = 0 → ∀ j2 j3 j4 j5 : Option Value, T X (5) 263 2 [some (.ref r0), some (.int (iI q.2)), j2, j3, j4, j5] [] n z G V' Q) (h1 : q.1 = 1 → ∀ j2 j3 j4 j5 : Option Value, T X (5) 263 186 [some (.ref r0), some (.int (iI q.2)), j2, j3, j4, j5] [] n z G V' Q) (h : F_X10_qPartTold_J101_2 G r0 x1 x4 V = some (V', q)) : T X (5) 263 101 [some (.ref r0), some (.int (iI x1)), j2, j3, some (.int (iI x4)), j5] [] n z G V Q := by
  unfold F_X10_qPartTold_J101_2 at h
  refine t_l fX10_qPartTold_101 rfl rfl rfl rfl ?_
  obtain ⟨V23, v24, e25, h⟩ := bd_some h
  refine kcX10_look fX10_qPartTold_102 (hr0).1 rfl (q_X10_look (hr0) e25) (by decide) ?_
  refine t_s fX10_qPartTold_105 rfl rfl rfl ?_
  obtain ⟨g27, h⟩ := gd_some h
  refine k9_ic_ne fX10_qPartTold_107 rfl g27 ⟨by decide, by decide⟩ (fun c26 => ?_) (fun c26 => ?_)
  · replace h := ite_f (c26) h
    refine t_s fX10_qPartTold_117 rfl rfl rfl ?_
    exact tj_X10_qPartTold_J118_2 hr0  h0 h1 h
  · replace h := ite_t (Classical.not_not.mp c26) h
    refine t_l fX10_qPartTold_110 rfl rfl rfl rfl ?_
    refine k9_gi fX10_qPartTold_111 (hr0).1 kg_10_2 ?_
    refine k9_goto fX10_qPartTold_114 rfl ?_
    exact tj_X10_qPartTold_J118_2 hr0  h0 h1 h

theorem tj_X10_qPartTold_J78_2 {X : mX} {n z : Nat} {G : mG} {r0 : Nat} (hr0 : is10 G r0) {x1 : Int} {j2 j3 j4 j5 : Option Value} {V V' : mV} {q : Nat × Int} {Q : Nat → Nat → mG → mV → Option Value → Prop} (h0 : q.1 = 0 → ∀ j2 j3 j4 j5 : Option Value, T X (5) 263 2 [some (.ref r0), some (.int (iI q.2)), j2, j3, j4, j5] [] n z G V' Q) (h1 : q.1 = 1 → ∀ j2 j3 j4 j5 : Option Value, T X (5) 263 186 [some (.ref r0), some (.int (iI q.2)), j2, j3, j4, j5] [] n z G V' Q) (h : F_X10_qPartTold_J78_2 G r0 x1 V = some (V', q)) : T X (5) 263 78 [some (.ref r0), some (.int (iI x1)), j2, j3, j4, j5] [] n z G V Q := by
  unfold F_X10_qPartTold_J78_2 at h
  refine t_l fX10_qPartTold_78 rfl rfl rfl rfl ?_
  refine t_l fX10_qPartTold_79 rfl rfl rfl rfl ?_
  refine k9_gr fX10_qPartTold_80 (hr0).1 kg_10_85 (s10_85r hr0) ?_
  obtain ⟨V18, v19, e20, h⟩ := bd_some h
  refine kcX10_takes fX10_qPartTold_83 (hr0).1 rfl rfl (q_X10_takes (hr0) (qGf (s10_85s hr0)) e20) (by decide) ?_
  refine t_l fX10_qPartTold_86 rfl rfl rfl rfl ?_
  refine t_l fX10_qPartTold_88 rfl rfl rfl rfl ?_
  obtain ⟨g22, h⟩ := gd_some h
  refine k9_if_ne fX10_qPartTold_90 rfl g22 (fun c21 => ?_) (fun c21 => ?_)
  · replace h := ite_f (c21) h
    exact tj_X10_qPartTold_J101_2 hr0  h0 h1 h
  · replace h := ite_t (Classical.not_not.mp c21) h
    refine t_l fX10_qPartTold_93 rfl rfl rfl rfl ?_
    refine t_l fX10_qPartTold_94 rfl rfl rfl rfl ?_
    refine k9_gr fX10_qPartTold_95 (hr0).1 kg_10_86 (s10_86r hr0) ?_
    obtain ⟨V38, v39, e40, h⟩ := bd_some h
    refine kcX10_asks fX10_qPartTold_98 (hr0).1 rfl rfl (q_X10_asks (hr0) (qGf (s10_86s hr0)) e40) (by decide) ?_
    exact tj_X10_qPartTold_J101_2 hr0  h0 h1 h

theorem tb_X10_qPartTold_2 {X : mX} {n z : Nat} {G : mG} {r0 : Nat} (hr0 : is10 G r0) {x1 : Int} {j2 j3 j4 j5 : Option Value} {V V' : mV} {q : Nat × Int} {Q : Nat → Nat → mG → mV → Option Value → Prop} (h0 : q.1 = 0 → ∀ j2 j3 j4 j5 : Option Value, T X (5) 263 2 [some (.ref r0), some (.int (iI q.2)), j2, j3, j4, j5] [] n z G V' Q) (h1 : q.1 = 1 → ∀ j2 j3 j4 j5 : Option Value, T X (5) 263 186 [some (.ref r0), some (.int (iI q.2)), j2, j3, j4, j5] [] n z G V' Q) (h : B_X10_qPartTold_2 G r0 x1 V = some (V', q)) : T X (5) 263 2 [some (.ref r0), some (.int (iI x1)), j2, j3, j4, j5] [] n z G V Q := by
  unfold B_X10_qPartTold_2 at h
  refine t_l fX10_qPartTold_2 rfl rfl rfl rfl ?_
  obtain ⟨g2, h⟩ := gd_some h
  refine k9_if_eq fX10_qPartTold_3 rfl g2 (fun c1 => ?_) (fun c1 => ?_)
  · replace h := ite_t (c1) h
    cases h
    exact h1 rfl _ _ _ _
  · replace h := ite_f (c1) h
    refine t_l fX10_qPartTold_6 rfl rfl rfl rfl ?_
    refine k9_gi fX10_qPartTold_7 (hr0).1 kg_10_5 ?_
    obtain ⟨g4, h⟩ := gd_some h
    refine k9_if_ne fX10_qPartTold_10 rfl g4 (fun c3 => ?_) (fun c3 => ?_)
    · replace h := ite_f (c3) h
      cases h
      exact h1 rfl _ _ _ _
    · replace h := ite_t (Classical.not_not.mp c3) h
      refine t_l fX10_qPartTold_13 rfl rfl rfl rfl ?_
      obtain ⟨V5, v6, e7, h⟩ := bd_some h
      refine kcX10_look fX10_qPartTold_14 (hr0).1 rfl (q_X10_look (hr0) e7) (by decide) ?_
      refine t_l fX10_qPartTold_17 rfl rfl rfl rfl ?_
      refine t_l fX10_qPartTold_18 rfl rfl rfl rfl ?_
      refine t_s fX10_qPartTold_19 rfl rfl rfl ?_
      refine t_s fX10_qPartTold_21 rfl rfl rfl ?_
      obtain ⟨V8, v9, e10, h⟩ := bd_some h
      refine kcX10_qWordOf fX10_qPartTold_23 (hr0).1 rfl (q_X10_qWordOf (hr0) e10) (by decide) ?_
      refine t_l fX10_qPartTold_26 rfl rfl rfl rfl ?_
      refine t_l fX10_qPartTold_27 rfl rfl rfl rfl ?_
      refine t_s fX10_qPartTold_28 rfl rfl rfl ?_
      obtain ⟨g12, h⟩ := gd_some h
      refine k9_ic_ne fX10_qPartTold_30 rfl g12 ⟨by decide, by decide⟩ (fun c11 => ?_) (fun c11 => ?_)
      · replace h := ite_f (c11) h
        refine t_l fX10_qPartTold_56 rfl rfl rfl rfl ?_
        refine t_l fX10_qPartTold_57 rfl rfl rfl rfl ?_
        refine k9_gr fX10_qPartTold_58 (hr0).1 kg_10_85 (s10_85r hr0) ?_
        obtain ⟨V13, v14, e15, h⟩ := bd_some h
        refine kcX10_isHere fX10_qPartTold_61 (hr0).1 rfl rfl (q_X10_isHere (hr0) (qGf (s10_85s hr0)) e15) (by decide) ?_
        obtain ⟨g17, h⟩ := gd_some h
        refine k9_if_ne fX10_qPartTold_64 rfl g17 (fun c16 => ?_) (fun c16 => ?_)
        · replace h := ite_f (c16) h
          exact tj_X10_qPartTold_J78_2 hr0  h0 h1 h
        · replace h := ite_t (Classical.not_not.mp c16) h
          refine t_l fX10_qPartTold_67 rfl rfl rfl rfl ?_
          refine t_l fX10_qPartTold_68 rfl rfl rfl rfl ?_
          refine k9_gr fX10_qPartTold_69 (hr0).1 kg_10_86 (s10_86r hr0) ?_
          obtain ⟨V41, v42, e43, h⟩ := bd_some h
          refine kcX10_isHere fX10_qPartTold_72 (hr0).1 rfl rfl (q_X10_isHere (hr0) (qGf (s10_86s hr0)) e43) (by decide) ?_
          obtain ⟨g45, h⟩ := gd_some h
          refine k9_if_eq fX10_qPartTold_75 rfl g45 (fun c44 => ?_) (fun c44 => ?_)
          · replace h := ite_t (c44) h
            refine t_l fX10_qPartTold_153 rfl rfl rfl rfl ?_
            refine t_s fX10_qPartTold_154 rfl rfl rfl ?_
            obtain ⟨g47, h⟩ := gd_some h
            refine k9_ic_eq fX10_qPartTold_155 rfl g47 ⟨by decide, by decide⟩ (fun c46 => ?_) (fun c46 => ?_)
            · replace h := ite_t (c46) h
              refine t_s fX10_qPartTold_181 rfl rfl rfl ?_
              refine t_l fX10_qPartTold_182 rfl rfl rfl rfl ?_
              refine k9_goto fX10_qPartTold_183 rfl ?_
              cases h
              exact h0 rfl _ _ _ _
            · replace h := ite_f (c46) h
              refine t_l fX10_qPartTold_158 rfl rfl rfl rfl ?_
              refine t_s fX10_qPartTold_159 rfl rfl rfl ?_
              refine t_l fX10_qPartTold_161 rfl rfl rfl rfl ?_
              refine k9_iadd fX10_qPartTold_162 ?_
              refine t_s fX10_qPartTold_163 rfl rfl rfl ?_
              refine k9_isub fX10_qPartTold_165 ?_
              refine t_l fX10_qPartTold_166 rfl rfl rfl rfl ?_
              refine k9_gi fX10_qPartTold_167 (hr0).1 kg_10_2 ?_
              obtain ⟨V48, v49, e50, h⟩ := bd_some h
              refine kcX10_qOpens fX10_qPartTold_170 (hr0).1 rfl (q_X10_qOpens (hr0) e50) (by decide) ?_
              refine t_l fX10_qPartTold_173 rfl rfl rfl rfl ?_
              refine t_l fX10_qPartTold_174 rfl rfl rfl rfl ?_
              obtain ⟨V51, v52, e53, h⟩ := bd_some h
              refine kcX10_qAsksWord fX10_qPartTold_175 (hr0).1 rfl (q_X10_qAsksWord (hr0) e53) (by decide) ?_
              refine k9_goto fX10_qPartTold_178 rfl ?_
              refine k9_goto fX10_qPartTold_183 rfl ?_
              cases h
              exact h0 rfl _ _ _ _
          · replace h := ite_f (c44) h
            exact tj_X10_qPartTold_J78_2 hr0  h0 h1 h
      · replace h := ite_t (Classical.not_not.mp c11) h
        refine t_l fX10_qPartTold_33 rfl rfl rfl rfl ?_
        refine t_s fX10_qPartTold_34 rfl rfl rfl ?_
        refine t_l fX10_qPartTold_36 rfl rfl rfl rfl ?_
        refine k9_gi fX10_qPartTold_37 (hr0).1 kg_10_2 ?_
        obtain ⟨V54, v55, e56, h⟩ := bd_some h
        refine kcX10_qOpens fX10_qPartTold_40 (hr0).1 rfl (q_X10_qOpens (hr0) e56) (by decide) ?_
        refine t_l fX10_qPartTold_43 rfl rfl rfl rfl ?_
        refine t_s fX10_qPartTold_44 rfl rfl rfl ?_
        refine k9_gi fX10_qPartTold_45 (hr0).1 kg_10_2 ?_
        refine t_s fX10_qPartTold_48 rfl rfl rfl ?_
        refine k9_iadd fX10_qPartTold_49 ?_
        refine k9_pi fX10_qPartTold_50 (hr0).1 kp_10_2 ?_
        replace h := lt_some h
        refine k9_goto fX10_qPartTold_53 rfl ?_
        refine k9_goto fX10_qPartTold_183 rfl ?_
        cases h
        exact h0 rfl _ _ _ _

theorem tl_X10_qPartTold_2 {X : mX} {n z : Nat} {G : mG} {r0 : Nat} (hr0 : is10 G r0) {x1 : Int} {j2 j3 j4 j5 : Option Value} {V V' : mV} {fu : Nat} {q : Nat × Int} {Q : Nat → Nat → mG → mV → Option Value → Prop} (k1 : q.1 = 1 → ∀ j2 j3 j4 j5 : Option Value, T X (5) 263 186 [some (.ref r0), some (.int (iI q.2)), j2, j3, j4, j5] [] n z G V' Q) (h : lp (fun (s : Int) V => B_X10_qPartTold_2 G r0 s V) fu x1 V = some (V', q)) : T X (5) 263 2 [some (.ref r0), some (.int (iI x1)), j2, j3, j4, j5] [] n z G V Q :=
  lp_go (P0 := fun s V => ∀ j2 j3 j4 j5 : Option Value, T X (5) 263 2 [some (.ref r0), some (.int (iI s)), j2, j3, j4, j5] [] n z G V Q) (PE := fun t s V => (t = 1 → ∀ j2 j3 j4 j5 : Option Value, T X (5) 263 186 [some (.ref r0), some (.int (iI s)), j2, j3, j4, j5] [] n z G V Q)) (fun s V V' q hb h0 h1 => fun _ _ _ _ => tb_X10_qPartTold_2 hr0  h0 (fun e => (h1 (by omega)) e) hb) fu x1 V V' q h k1 _ _ _ _

theorem tj_X10_qPartTold_J237 {X : mX} {n z : Nat} {G : mG} {r0 : Nat} (hr0 : is10 G r0) {s1 : Int} {j1 j2 j3 j4 j5 : Option Value} {V V' : mV} {v : Int} (h : F_X10_qPartTold_J237 G r0 s1 V = some (V', v)) : T X (5) 263 237 [some (.ref r0), j1, j2, j3, j4, j5] [.int (iI s1), .ref r0] n z G V (qv n z G V' v) := by
  unfold F_X10_qPartTold_J237 at h
  obtain ⟨V74, v75, e76, h⟩ := bd_some h
  refine kcX10_qCode fX10_qPartTold_237 (hr0).1 rfl (q_X10_qCode (hr0) e76) (by decide) ?_
  refine t_l fX10_qPartTold_240 rfl rfl rfl rfl ?_
  obtain ⟨V77, v78, e79, h⟩ := bd_some h
  refine kcX10_qEndsPart fX10_qPartTold_241 (hr0).1 rfl (q_X10_qEndsPart (hr0) e79) (by decide) ?_
  refine t_ret fX10_qPartTold_244 rX10_qPartTold ?_
  exact qf_v h

theorem tj_X10_qPartTold_J212 {X : mX} {n z : Nat} {G : mG} {r0 : Nat} (hr0 : is10 G r0) {x2 : Int} {j1 j3 j4 j5 : Option Value} {V V' : mV} {v : Int} (h : F_X10_qPartTold_J212 G r0 x2 V = some (V', v)) : T X (5) 263 212 [some (.ref r0), j1, some (.int (iI x2)), j3, j4, j5] [] n z G V (qv n z G V' v) := by
  unfold F_X10_qPartTold_J212 at h
  refine t_l fX10_qPartTold_212 rfl rfl rfl rfl ?_
  refine t_l fX10_qPartTold_213 rfl rfl rfl rfl ?_
  refine t_s fX10_qPartTold_214 rfl rfl rfl ?_
  obtain ⟨g70, h⟩ := gd_some h
  refine k9_ic_eq fX10_qPartTold_215 rfl g70 ⟨by decide, by decide⟩ (fun c69 => ?_) (fun c69 => ?_)
  · replace h := ite_t (c69) h
    refine t_s fX10_qPartTold_225 rfl rfl rfl ?_
    refine t_l fX10_qPartTold_228 rfl rfl rfl rfl ?_
    refine t_s fX10_qPartTold_229 rfl rfl rfl ?_
    refine t_s fX10_qPartTold_230 rfl rfl rfl ?_
    obtain ⟨V71, v72, e73, h⟩ := bd_some h
    refine kcX10_number fX10_qPartTold_233 (hr0).1 rfl (q_X10_number (hr0) e73) (by decide) ?_
    refine k9_iadd fX10_qPartTold_236 ?_
    exact tj_X10_qPartTold_J237 hr0   h
  · replace h := ite_f (c69) h
    refine t_s fX10_qPartTold_218 rfl rfl rfl ?_
    refine t_l fX10_qPartTold_220 rfl rfl rfl rfl ?_
    refine k9_iadd fX10_qPartTold_221 ?_
    refine k9_goto fX10_qPartTold_222 rfl ?_
    exact tj_X10_qPartTold_J237 hr0   h

theorem tj_X10_qPartTold_J186 {X : mX} {n z : Nat} {G : mG} {r0 : Nat} (hr0 : is10 G r0) {j1 j2 j3 j4 j5 : Option Value} {V V' : mV} {v : Int} (h : F_X10_qPartTold_J186 G r0 V = some (V', v)) : T X (5) 263 186 [some (.ref r0), j1, j2, j3, j4, j5] [] n z G V (qv n z G V' v) := by
  unfold F_X10_qPartTold_J186 at h
  refine t_l fX10_qPartTold_186 rfl rfl rfl rfl ?_
  refine k9_gi fX10_qPartTold_187 (hr0).1 kg_10_5 ?_
  obtain ⟨g63, h⟩ := gd_some h
  refine k9_if_eq fX10_qPartTold_190 rfl g63 (fun c62 => ?_) (fun c62 => ?_)
  · replace h := ite_t (c62) h
    refine t_l fX10_qPartTold_194 rfl rfl rfl rfl ?_
    refine t_s fX10_qPartTold_195 rfl rfl rfl ?_
    refine t_s fX10_qPartTold_196 rfl rfl rfl ?_
    obtain ⟨V64, v65, e66, h⟩ := bd_some h
    refine kcX10_qWordOf fX10_qPartTold_198 (hr0).1 rfl (q_X10_qWordOf (hr0) e66) (by decide) ?_
    refine t_l fX10_qPartTold_201 rfl rfl rfl rfl ?_
    refine t_l fX10_qPartTold_202 rfl rfl rfl rfl ?_
    refine t_s fX10_qPartTold_203 rfl rfl rfl ?_
    obtain ⟨g68, h⟩ := gd_some h
    refine k9_ic_eq fX10_qPartTold_204 rfl g68 ⟨by decide, by decide⟩ (fun c67 => ?_) (fun c67 => ?_)
    · replace h := ite_t (c67) h
      exact tj_X10_qPartTold_J212 hr0   h
    · replace h := ite_f (c67) h
      refine t_l fX10_qPartTold_207 rfl rfl rfl rfl ?_
      refine t_l fX10_qPartTold_208 rfl rfl rfl rfl ?_
      obtain ⟨V80, v81, e82, h⟩ := bd_some h
      refine kcX10_qAsksWord fX10_qPartTold_209 (hr0).1 rfl (q_X10_qAsksWord (hr0) e82) (by decide) ?_
      exact tj_X10_qPartTold_J212 hr0   h
  · replace h := ite_f (c62) h
    refine t_ret fX10_qPartTold_193 rX10_qPartTold ?_
    exact qf_v h

theorem q_X10_qPartTold {X : mX} {n z : Nat} {G : mG} {r0 : Nat} (hr0 : is10 G r0) {V V' : mV} {v : Int} (h : F_X10_qPartTold G r0 V = some (V', v)) : Rn X (5) 263 [.ref r0] n z G V n z G V' none := by
  refine qv_toR (v := v) (L := [some (.ref r0), none, none, none, none, none]) rfl ?_
  unfold F_X10_qPartTold at h
  refine t_s fX10_qPartTold_0 rfl rfl rfl ?_
  refine t_l fX10_qPartTold_1 rfl rfl rfl rfl ?_
  obtain ⟨V58, u59, e60, h⟩ := bd_some h
  refine tl_X10_qPartTold_2 hr0  (fun e61 j2 j3 j4 j5 => ?_) e60
  exact tj_X10_qPartTold_J186 hr0   h

theorem tb_X10_qSums_15 {X : mX} {n z : Nat} {G : mG} {r0 : Nat} (hr0 : is10 G r0) {x1 x2 : Int} {V V' : mV} {q : Nat × Int} {Q : Nat → Nat → mG → mV → Option Value → Prop} (h0 : q.1 = 0 → T X (6) 265 15 [some (.ref r0), some (.int (iI x1)), some (.int (iI q.2))] [] n z G V' Q) (h1 : q.1 = 1 → T X (6) 265 53 [some (.ref r0), some (.int (iI x1)), some (.int (iI q.2))] [] n z G V' Q) (h : B_X10_qSums_15 G r0 x1 x2 V = some (V', q)) : T X (6) 265 15 [some (.ref r0), some (.int (iI x1)), some (.int (iI x2))] [] n z G V Q := by
  unfold B_X10_qSums_15 at h
  refine t_l fX10_qSums_15 rfl rfl rfl rfl ?_
  obtain ⟨g4, h⟩ := gd_some h
  refine k9_if_eq fX10_qSums_16 rfl g4 (fun c3 => ?_) (fun c3 => ?_)
  · replace h := ite_t (c3) h
    cases h
    exact h1 rfl
  · replace h := ite_f (c3) h
    refine t_l fX10_qSums_19 rfl rfl rfl rfl ?_
    refine k9_gi fX10_qSums_20 (hr0).1 kg_10_5 ?_
    obtain ⟨g6, h⟩ := gd_some h
    refine k9_if_ne fX10_qSums_23 rfl g6 (fun c5 => ?_) (fun c5 => ?_)
    · replace h := ite_f (c5) h
      cases h
      exact h1 rfl
    · replace h := ite_t (Classical.not_not.mp c5) h
      refine t_l fX10_qSums_26 rfl rfl rfl rfl ?_
      obtain ⟨V7, v8, e9, h⟩ := bd_some h
      refine kcX10_qPartTold fX10_qSums_27 (hr0).1 rfl (q_X10_qPartTold (hr0) e9) (by decide) ?_
      refine t_l fX10_qSums_30 rfl rfl rfl rfl ?_
      refine k9_gi fX10_qSums_31 (hr0).1 kg_10_5 ?_
      obtain ⟨g11, h⟩ := gd_some h
      refine k9_if_ne fX10_qSums_34 rfl g11 (fun c10 => ?_) (fun c10 => ?_)
      · replace h := ite_f (c10) h
        refine t_s fX10_qSums_48 rfl rfl rfl ?_
        refine t_l fX10_qSums_49 rfl rfl rfl rfl ?_
        refine k9_goto fX10_qSums_50 rfl ?_
        cases h
        exact h0 rfl
      · replace h := ite_t (Classical.not_not.mp c10) h
        refine t_l fX10_qSums_37 rfl rfl rfl rfl ?_
        obtain ⟨V12, v13, e14, h⟩ := bd_some h
        refine kcX10_qGoesOn fX10_qSums_38 (hr0).1 rfl (q_X10_qGoesOn (hr0) e14) (by decide) ?_
        obtain ⟨g16, h⟩ := gd_some h
        refine k9_if_eq fX10_qSums_41 rfl g16 (fun c15 => ?_) (fun c15 => ?_)
        · replace h := ite_t (c15) h
          refine t_s fX10_qSums_48 rfl rfl rfl ?_
          refine t_l fX10_qSums_49 rfl rfl rfl rfl ?_
          refine k9_goto fX10_qSums_50 rfl ?_
          cases h
          exact h0 rfl
        · replace h := ite_f (c15) h
          refine t_s fX10_qSums_44 rfl rfl rfl ?_
          refine k9_goto fX10_qSums_45 rfl ?_
          refine t_l fX10_qSums_49 rfl rfl rfl rfl ?_
          refine k9_goto fX10_qSums_50 rfl ?_
          cases h
          exact h0 rfl

theorem tl_X10_qSums_15 {X : mX} {n z : Nat} {G : mG} {r0 : Nat} (hr0 : is10 G r0) {x1 x2 : Int} {V V' : mV} {fu : Nat} {q : Nat × Int} {Q : Nat → Nat → mG → mV → Option Value → Prop} (k1 : q.1 = 1 → T X (6) 265 53 [some (.ref r0), some (.int (iI x1)), some (.int (iI q.2))] [] n z G V' Q) (h : lp (fun (s : Int) V => B_X10_qSums_15 G r0 x1 s V) fu x2 V = some (V', q)) : T X (6) 265 15 [some (.ref r0), some (.int (iI x1)), some (.int (iI x2))] [] n z G V Q :=
  lp_go (P0 := fun s V => T X (6) 265 15 [some (.ref r0), some (.int (iI x1)), some (.int (iI s))] [] n z G V Q) (PE := fun t s V => (t = 1 → T X (6) 265 53 [some (.ref r0), some (.int (iI x1)), some (.int (iI s))] [] n z G V Q)) (fun s V V' q hb h0 h1 => tb_X10_qSums_15 hr0  h0 (fun e => (h1 (by omega)) e) hb) fu x2 V V' q h k1

theorem tb_X10_qSums_53 {X : mX} {n z : Nat} {G : mG} {r0 : Nat} (hr0 : is10 G r0) {x1 : Int} {j2 : Option Value} {V V' : mV} {q : Nat × Unit} {Q : Nat → Nat → mG → mV → Option Value → Prop} (h0 : q.1 = 0 → ∀ j2 : Option Value, T X (6) 265 53 [some (.ref r0), some (.int (iI x1)), j2] [] n z G V' Q) (h1 : q.1 = 1 → ∀ j2 : Option Value, T X (6) 265 78 [some (.ref r0), some (.int (iI x1)), j2] [] n z G V' Q) (h : B_X10_qSums_53 G r0 x1 V = some (V', q)) : T X (6) 265 53 [some (.ref r0), some (.int (iI x1)), j2] [] n z G V Q := by
  unfold B_X10_qSums_53 at h
  refine t_l fX10_qSums_53 rfl rfl rfl rfl ?_
  refine k9_gi fX10_qSums_54 (hr0).1 kg_10_5 ?_
  obtain ⟨g22, h⟩ := gd_some h
  refine k9_if_ne fX10_qSums_57 rfl g22 (fun c21 => ?_) (fun c21 => ?_)
  · replace h := ite_f (c21) h
    cases h
    exact h1 rfl _
  · replace h := ite_t (Classical.not_not.mp c21) h
    refine t_l fX10_qSums_60 rfl rfl rfl rfl ?_
    refine k9_gi fX10_qSums_61 (hr0).1 kg_10_100 ?_
    refine t_l fX10_qSums_64 rfl rfl rfl rfl ?_
    refine k9_gi fX10_qSums_65 (hr0).1 kg_10_102 ?_
    obtain ⟨g24, h⟩ := gd_some h
    obtain ⟨g25, h⟩ := gd_some h
    refine k9_ic_le fX10_qSums_68 rfl g24 g25 (fun c23 => ?_) (fun c23 => ?_)
    · replace h := ite_t (c23) h
      cases h
      exact h1 rfl _
    · replace h := ite_f (c23) h
      refine t_l fX10_qSums_71 rfl rfl rfl rfl ?_
      obtain ⟨V26, v27, e28, h⟩ := bd_some h
      refine kcX10_qDrops fX10_qSums_72 (hr0).1 rfl (q_X10_qDrops (hr0) e28) (by decide) ?_
      refine k9_goto fX10_qSums_75 rfl ?_
      cases h
      exact h0 rfl _

theorem tl_X10_qSums_53 {X : mX} {n z : Nat} {G : mG} {r0 : Nat} (hr0 : is10 G r0) {x1 : Int} {j2 : Option Value} {V V' : mV} {fu : Nat} {q : Nat × Unit} {Q : Nat → Nat → mG → mV → Option Value → Prop} (k1 : q.1 = 1 → ∀ j2 : Option Value, T X (6) 265 78 [some (.ref r0), some (.int (iI x1)), j2] [] n z G V' Q) (h : lp (fun (s : Unit) V => B_X10_qSums_53 G r0 x1  V) fu () V = some (V', q)) : T X (6) 265 53 [some (.ref r0), some (.int (iI x1)), j2] [] n z G V Q :=
  lp_go (P0 := fun s V => ∀ j2 : Option Value, T X (6) 265 53 [some (.ref r0), some (.int (iI x1)), j2] [] n z G V Q) (PE := fun t s V => (t = 1 → ∀ j2 : Option Value, T X (6) 265 78 [some (.ref r0), some (.int (iI x1)), j2] [] n z G V Q)) (fun s V V' q hb h0 h1 => fun _ => tb_X10_qSums_53 hr0  h0 (fun e => (h1 (by omega)) e) hb) fu () V V' q h k1 _

theorem q_X10_qSums {X : mX} {n z : Nat} {G : mG} {r0 : Nat} (hr0 : is10 G r0) {V V' : mV} {v : Int} (h : F_X10_qSums G r0 V = some (V', v)) : Rn X (6) 265 [.ref r0] n z G V n z G V' none := by
  refine qv_toR (v := v) (L := [some (.ref r0), none, none]) rfl ?_
  unfold F_X10_qSums at h
  refine t_l fX10_qSums_0 rfl rfl rfl rfl ?_
  refine k9_gi fX10_qSums_1 (hr0).1 kg_10_102 ?_
  replace h := lt_some h
  refine t_l fX10_qSums_4 rfl rfl rfl rfl ?_
  refine t_l fX10_qSums_5 rfl rfl rfl rfl ?_
  refine t_l fX10_qSums_6 rfl rfl rfl rfl ?_
  refine k9_gi fX10_qSums_7 (hr0).1 kg_10_100 ?_
  refine k9_pi fX10_qSums_10 (hr0).1 kp_10_102 ?_
  replace h := lt_some h
  refine t_s fX10_qSums_13 rfl rfl rfl ?_
  refine t_l fX10_qSums_14 rfl rfl rfl rfl ?_
  obtain ⟨V17, u18, e19, h⟩ := bd_some h
  refine tl_X10_qSums_15 hr0  (fun e20 => ?_) e19
  obtain ⟨V29, u30, e31, h⟩ := bd_some h
  refine tl_X10_qSums_53 hr0  (fun e32 j2 => ?_) e31
  refine t_l fX10_qSums_78 rfl rfl rfl rfl ?_
  refine t_l fX10_qSums_79 rfl rfl rfl rfl ?_
  refine k9_pi fX10_qSums_80 (hr0).1 kp_10_102 ?_
  replace h := lt_some h
  refine t_ret fX10_qSums_83 rX10_qSums ?_
  exact qf_v h

theorem tb_X10_qDropsNots_0 {X : mX} {n z : Nat} {G : mG} {r0 : Nat} (hr0 : is10 G r0) {V V' : mV} {q : Nat × Unit} {Q : Nat → Nat → mG → mV → Option Value → Prop} (h0 : q.1 = 0 → T X (2) 268 0 [some (.ref r0)] [] n z G V' Q) (h1 : q.1 = 1 → T X (2) 268 33 [some (.ref r0)] [] n z G V' Q) (h : B_X10_qDropsNots_0 G r0 V = some (V', q)) : T X (2) 268 0 [some (.ref r0)] [] n z G V Q := by
  unfold B_X10_qDropsNots_0 at h
  refine t_l fX10_qDropsNots_0 rfl rfl rfl rfl ?_
  refine k9_gi fX10_qDropsNots_1 (hr0).1 kg_10_5 ?_
  obtain ⟨g2, h⟩ := gd_some h
  refine k9_if_ne fX10_qDropsNots_4 rfl g2 (fun c1 => ?_) (fun c1 => ?_)
  · replace h := ite_f (c1) h
    cases h
    exact h1 rfl
  · replace h := ite_t (Classical.not_not.mp c1) h
    refine t_l fX10_qDropsNots_7 rfl rfl rfl rfl ?_
    refine t_s fX10_qDropsNots_8 rfl rfl rfl ?_
    obtain ⟨V3, v4, e5, h⟩ := bd_some h
    refine kcX10_qIsOn fX10_qDropsNots_10 (hr0).1 rfl (q_X10_qIsOn (hr0) e5) (by decide) ?_
    obtain ⟨g7, h⟩ := gd_some h
    refine k9_if_eq fX10_qDropsNots_13 rfl g7 (fun c6 => ?_) (fun c6 => ?_)
    · replace h := ite_t (c6) h
      cases h
      exact h1 rfl
    · replace h := ite_f (c6) h
      refine t_l fX10_qDropsNots_16 rfl rfl rfl rfl ?_
      refine t_s fX10_qDropsNots_17 rfl rfl rfl ?_
      refine k9_gi fX10_qDropsNots_18 (hr0).1 kg_10_101 ?_
      refine t_s fX10_qDropsNots_21 rfl rfl rfl ?_
      refine k9_isub fX10_qDropsNots_22 ?_
      refine k9_pi fX10_qDropsNots_23 (hr0).1 kp_10_101 ?_
      replace h := lt_some h
      refine t_l fX10_qDropsNots_26 rfl rfl rfl rfl ?_
      obtain ⟨V9, v10, e11, h⟩ := bd_some h
      refine kcX10_qDrops fX10_qDropsNots_27 (hr0).1 rfl (q_X10_qDrops (hr0) e11) (by decide) ?_
      refine k9_goto fX10_qDropsNots_30 rfl ?_
      cases h
      exact h0 rfl

theorem tl_X10_qDropsNots_0 {X : mX} {n z : Nat} {G : mG} {r0 : Nat} (hr0 : is10 G r0) {V V' : mV} {fu : Nat} {q : Nat × Unit} {Q : Nat → Nat → mG → mV → Option Value → Prop} (k1 : q.1 = 1 → T X (2) 268 33 [some (.ref r0)] [] n z G V' Q) (h : lp (fun (s : Unit) V => B_X10_qDropsNots_0 G r0  V) fu () V = some (V', q)) : T X (2) 268 0 [some (.ref r0)] [] n z G V Q :=
  lp_go (P0 := fun s V => T X (2) 268 0 [some (.ref r0)] [] n z G V Q) (PE := fun t s V => (t = 1 → T X (2) 268 33 [some (.ref r0)] [] n z G V Q)) (fun s V V' q hb h0 h1 => tb_X10_qDropsNots_0 hr0  h0 (fun e => (h1 (by omega)) e) hb) fu () V V' q h k1

theorem q_X10_qDropsNots {X : mX} {n z : Nat} {G : mG} {r0 : Nat} (hr0 : is10 G r0) {V V' : mV} {v : Int} (h : F_X10_qDropsNots G r0 V = some (V', v)) : Rn X (2) 268 [.ref r0] n z G V n z G V' none := by
  refine qv_toR (v := v) (L := [some (.ref r0)]) rfl ?_
  unfold F_X10_qDropsNots at h
  obtain ⟨V12, u13, e14, h⟩ := bd_some h
  refine tl_X10_qDropsNots_0 hr0  (fun e15 => ?_) e14
  refine t_ret fX10_qDropsNots_33 rX10_qDropsNots ?_
  exact qf_v h

theorem tj_X10_qFact_J63 {X : mX} {n z : Nat} {G : mG} {r0 : Nat} (hr0 : is10 G r0) {x1 : Int} {V V' : mV} {v : Int} (h : F_X10_qFact_J63 G r0 x1 V = some (V', v)) : T X (7) 266 63 [some (.ref r0), some (.int (iI x1))] [] n z G V (qv n z G V' v) := by
  unfold F_X10_qFact_J63 at h
  refine t_l fX10_qFact_63 rfl rfl rfl rfl ?_
  refine t_s fX10_qFact_64 rfl rfl rfl ?_
  refine k9_gi fX10_qFact_65 (hr0).1 kg_10_2 ?_
  refine t_s fX10_qFact_68 rfl rfl rfl ?_
  refine k9_iadd fX10_qFact_69 ?_
  refine k9_pi fX10_qFact_70 (hr0).1 kp_10_2 ?_
  replace h := lt_some h
  refine t_l fX10_qFact_73 rfl rfl rfl rfl ?_
  obtain ⟨V17, v18, e19, h⟩ := bd_some h
  refine kcX10_qSums fX10_qFact_74 (hr0).1 rfl (q_X10_qSums (hr0) e19) (by decide) ?_
  refine t_l fX10_qFact_77 rfl rfl rfl rfl ?_
  refine t_l fX10_qFact_78 rfl rfl rfl rfl ?_
  refine t_s fX10_qFact_79 rfl rfl rfl ?_
  obtain ⟨g21, h⟩ := gd_some h
  refine k9_ic_ne fX10_qFact_81 rfl g21 ⟨by decide, by decide⟩ (fun c20 => ?_) (fun c20 => ?_)
  · replace h := ite_f (c20) h
    refine t_l fX10_qFact_89 rfl rfl rfl rfl ?_
    refine t_s fX10_qFact_90 rfl rfl rfl ?_
    refine k9_ic_ne fX10_qFact_92 rfl g21 ⟨by decide, by decide⟩ (fun c22 => ?_) (fun c22 => ?_)
    · replace h := ite_f (c22) h
      refine t_s fX10_qFact_100 rfl rfl rfl ?_
      obtain ⟨V23, v24, e25, h⟩ := bd_some h
      refine kcX10_qCode fX10_qFact_102 (hr0).1 rfl (q_X10_qCode (hr0) e25) (by decide) ?_
      refine t_ret fX10_qFact_105 rX10_qFact ?_
      exact qf_v h
    · replace h := ite_t (Classical.not_not.mp c22) h
      refine t_s fX10_qFact_95 rfl rfl rfl ?_
      refine k9_goto fX10_qFact_97 rfl ?_
      obtain ⟨V26, v27, e28, h⟩ := bd_some h
      refine kcX10_qCode fX10_qFact_102 (hr0).1 rfl (q_X10_qCode (hr0) e28) (by decide) ?_
      refine t_ret fX10_qFact_105 rX10_qFact ?_
      exact qf_v h
  · replace h := ite_t (Classical.not_not.mp c20) h
    refine t_s fX10_qFact_84 rfl rfl rfl ?_
    refine k9_goto fX10_qFact_86 rfl ?_
    obtain ⟨V29, v30, e31, h⟩ := bd_some h
    refine kcX10_qCode fX10_qFact_102 (hr0).1 rfl (q_X10_qCode (hr0) e31) (by decide) ?_
    refine t_ret fX10_qFact_105 rX10_qFact ?_
    exact qf_v h

theorem q_X10_qFact {X : mX} {n z : Nat} {G : mG} {r0 : Nat} (hr0 : is10 G r0) {V V' : mV} {v : Int} (h : F_X10_qFact G r0 V = some (V', v)) : Rn X (7) 266 [.ref r0] n z G V n z G V' none := by
  refine qv_toR (v := v) (L := [some (.ref r0), none]) rfl ?_
  unfold F_X10_qFact at h
  refine t_l fX10_qFact_0 rfl rfl rfl rfl ?_
  refine t_l fX10_qFact_1 rfl rfl rfl rfl ?_
  refine k9_gr fX10_qFact_2 (hr0).1 kg_10_84 (s10_84r hr0) ?_
  obtain ⟨V1, v2, e3, h⟩ := bd_some h
  refine kcX10_takes fX10_qFact_5 (hr0).1 rfl rfl (q_X10_takes (hr0) (qGf (s10_84s hr0)) e3) (by decide) ?_
  obtain ⟨g5, h⟩ := gd_some h
  refine k9_if_eq fX10_qFact_8 rfl g5 (fun c4 => ?_) (fun c4 => ?_)
  · replace h := ite_t (c4) h
    refine t_l fX10_qFact_18 rfl rfl rfl rfl ?_
    obtain ⟨V6, v7, e8, h⟩ := bd_some h
    refine kcX10_qSums fX10_qFact_19 (hr0).1 rfl (q_X10_qSums (hr0) e8) (by decide) ?_
    refine t_l fX10_qFact_22 rfl rfl rfl rfl ?_
    refine k9_gi fX10_qFact_23 (hr0).1 kg_10_5 ?_
    obtain ⟨g10, h⟩ := gd_some h
    refine k9_if_eq fX10_qFact_26 rfl g10 (fun c9 => ?_) (fun c9 => ?_)
    · replace h := ite_t (c9) h
      refine t_l fX10_qFact_30 rfl rfl rfl rfl ?_
      obtain ⟨V11, v12, e13, h⟩ := bd_some h
      refine kcX10_look fX10_qFact_31 (hr0).1 rfl (q_X10_look (hr0) e13) (by decide) ?_
      refine t_l fX10_qFact_34 rfl rfl rfl rfl ?_
      refine t_l fX10_qFact_35 rfl rfl rfl rfl ?_
      refine t_s fX10_qFact_36 rfl rfl rfl ?_
      obtain ⟨g15, h⟩ := gd_some h
      refine k9_ic_eq fX10_qFact_38 rfl g15 ⟨by decide, by decide⟩ (fun c14 => ?_) (fun c14 => ?_)
      · replace h := ite_t (c14) h
        exact tj_X10_qFact_J63 hr0   h
      · replace h := ite_f (c14) h
        refine t_l fX10_qFact_41 rfl rfl rfl rfl ?_
        refine t_s fX10_qFact_42 rfl rfl rfl ?_
        refine k9_ic_eq fX10_qFact_44 rfl g15 ⟨by decide, by decide⟩ (fun c32 => ?_) (fun c32 => ?_)
        · replace h := ite_t (c32) h
          exact tj_X10_qFact_J63 hr0   h
        · replace h := ite_f (c32) h
          refine t_l fX10_qFact_47 rfl rfl rfl rfl ?_
          refine t_s fX10_qFact_48 rfl rfl rfl ?_
          refine k9_ic_eq fX10_qFact_50 rfl g15 ⟨by decide, by decide⟩ (fun c33 => ?_) (fun c33 => ?_)
          · replace h := ite_t (c33) h
            exact tj_X10_qFact_J63 hr0   h
          · replace h := ite_f (c33) h
            refine t_l fX10_qFact_53 rfl rfl rfl rfl ?_
            refine t_s fX10_qFact_54 rfl rfl rfl ?_
            refine t_l fX10_qFact_55 rfl rfl rfl rfl ?_
            refine k9_gi fX10_qFact_56 (hr0).1 kg_10_2 ?_
            obtain ⟨V34, v35, e36, h⟩ := bd_some h
            refine kcX10_fail fX10_qFact_59 (hr0).1 rfl (q_X10_fail (hr0) e36) (by decide) ?_
            refine t_ret fX10_qFact_62 rX10_qFact ?_
            exact qf_v h
    · replace h := ite_f (c9) h
      refine t_ret fX10_qFact_29 rX10_qFact ?_
      exact qf_v h
  · replace h := ite_f (c4) h
    refine t_l fX10_qFact_11 rfl rfl rfl rfl ?_
    refine t_s fX10_qFact_12 rfl rfl rfl ?_
    obtain ⟨V37, v38, e39, h⟩ := bd_some h
    refine kcX10_qCode fX10_qFact_14 (hr0).1 rfl (q_X10_qCode (hr0) e39) (by decide) ?_
    refine t_ret fX10_qFact_17 rX10_qFact ?_
    exact qf_v h

theorem tb_X10_qHasSquare_2 {X : mX} {n z : Nat} {G : mG} {r0 : Nat} (hr0 : is10 G r0) {x1 : Int} {V V' : mV} {q : Nat × Int} {Q : Nat → Nat → mG → mV → Option Value → Prop} (h0 : q.1 = 0 → T X (0) 267 2 [some (.ref r0), some (.int (iI q.2))] [] n z G V' Q) (h1 : q.1 = 1 → T X (0) 267 21 [some (.ref r0), some (.int (iI q.2))] [] n z G V' Q) (h2 : q.1 = 2 → T X (0) 267 29 [some (.ref r0), some (.int (iI q.2))] [] n z G V' Q) (h : B_X10_qHasSquare_2 G r0 x1 V = some (V', q)) : T X (0) 267 2 [some (.ref r0), some (.int (iI x1))] [] n z G V Q := by
  unfold B_X10_qHasSquare_2 at h
  refine t_l fX10_qHasSquare_2 rfl rfl rfl rfl ?_
  refine t_l fX10_qHasSquare_3 rfl rfl rfl rfl ?_
  refine k9_gi fX10_qHasSquare_4 (hr0).1 kg_10_100 ?_
  obtain ⟨g2, h⟩ := gd_some h
  obtain ⟨g3, h⟩ := gd_some h
  refine k9_ic_ge fX10_qHasSquare_7 rfl g2 g3 (fun c1 => ?_) (fun c1 => ?_)
  · replace h := ite_t (c1) h
    cases h
    exact h2 rfl
  · replace h := ite_f (c1) h
    refine t_l fX10_qHasSquare_10 rfl rfl rfl rfl ?_
    refine k9_gr fX10_qHasSquare_11 (hr0).1 kg_10_99 (s10_99r hr0) ?_
    refine t_l fX10_qHasSquare_14 rfl rfl rfl rfl ?_
    obtain ⟨g4, h⟩ := gd_some h
    refine k9_ia fX10_qHasSquare_15 (s10_99s hr0) g4.1 g4.2.1 g4.2.2 ?_
    refine t_s fX10_qHasSquare_16 rfl rfl rfl ?_
    obtain ⟨g6, h⟩ := gd_some h
    refine k9_ic_ne fX10_qHasSquare_18 rfl g6 ⟨by decide, by decide⟩ (fun c5 => ?_) (fun c5 => ?_)
    · replace h := ite_f (c5) h
      replace h := lt_some h
      refine k9_iinc fX10_qHasSquare_23 rfl (Nat.le_of_ble_eq_true rfl) rfl ?_
      refine k9_goto fX10_qHasSquare_26 rfl ?_
      cases h
      exact h0 rfl
    · replace h := ite_t (Classical.not_not.mp c5) h
      cases h
      exact h1 rfl

theorem tl_X10_qHasSquare_2 {X : mX} {n z : Nat} {G : mG} {r0 : Nat} (hr0 : is10 G r0) {x1 : Int} {V V' : mV} {fu : Nat} {q : Nat × Int} {Q : Nat → Nat → mG → mV → Option Value → Prop} (k1 : q.1 = 1 → T X (0) 267 21 [some (.ref r0), some (.int (iI q.2))] [] n z G V' Q) (k2 : q.1 = 2 → T X (0) 267 29 [some (.ref r0), some (.int (iI q.2))] [] n z G V' Q) (h : lp (fun (s : Int) V => B_X10_qHasSquare_2 G r0 s V) fu x1 V = some (V', q)) : T X (0) 267 2 [some (.ref r0), some (.int (iI x1))] [] n z G V Q :=
  lp_go (P0 := fun s V => T X (0) 267 2 [some (.ref r0), some (.int (iI s))] [] n z G V Q) (PE := fun t s V => (t = 1 → T X (0) 267 21 [some (.ref r0), some (.int (iI s))] [] n z G V Q) ∧ (t = 2 → T X (0) 267 29 [some (.ref r0), some (.int (iI s))] [] n z G V Q)) (fun s V V' q hb h0 h1 => tb_X10_qHasSquare_2 hr0  h0 (fun e => (h1 (by omega)).1 e) (fun e => (h1 (by omega)).2 e) hb) fu x1 V V' q h ⟨k1, k2⟩

theorem q_X10_qHasSquare {X : mX} {n z : Nat} {G : mG} {r0 : Nat} (hr0 : is10 G r0) {V V' : mV} {v : Int} (h : F_X10_qHasSquare G r0 V = some (V', v)) : Rn X (0) 267 [.ref r0] n z G V n z G V' (some (.int (iI v))) := by
  refine qi_toR (v := v) (L := [some (.ref r0), none]) rfl ?_
  unfold F_X10_qHasSquare at h
  refine t_s fX10_qHasSquare_0 rfl rfl rfl ?_
  refine t_l fX10_qHasSquare_1 rfl rfl rfl rfl ?_
  obtain ⟨V8, u9, e10, h⟩ := bd_some h
  refine tl_X10_qHasSquare_2 hr0  (fun e11 => ?_) (fun e11 => ?_) e10
  · replace h := ite_t e11 h
    refine t_s fX10_qHasSquare_21 rfl rfl rfl ?_
    refine t_ret fX10_qHasSquare_22 (rX10_qHasSquare _ (by decide)) ?_
    exact qf_i h
  · replace h := ite_f (by omega) h
    refine t_s fX10_qHasSquare_29 rfl rfl rfl ?_
    refine t_ret fX10_qHasSquare_30 (rX10_qHasSquare _ (by decide)) ?_
    exact qf_i h

theorem tb_X10_qGoesOnTest_33 {X : mX} {n z : Nat} {G : mG} {r0 : Nat} (hr0 : is10 G r0) {V V' : mV} {q : Nat × Unit} {Q : Nat → Nat → mG → mV → Option Value → Prop} (h0 : q.1 = 0 → T X (3) 270 33 [some (.ref r0)] [] n z G V' Q) (h1 : q.1 = 1 → T X (3) 270 49 [some (.ref r0)] [] n z G V' Q) (h : B_X10_qGoesOnTest_33 G r0 V = some (V', q)) : T X (3) 270 33 [some (.ref r0)] [] n z G V Q := by
  unfold B_X10_qGoesOnTest_33 at h
  refine t_l fX10_qGoesOnTest_33 rfl rfl rfl rfl ?_
  refine t_s fX10_qGoesOnTest_34 rfl rfl rfl ?_
  obtain ⟨V14, v15, e16, h⟩ := bd_some h
  refine kcX10_qIsOn fX10_qGoesOnTest_36 (hr0).1 rfl (q_X10_qIsOn (hr0) e16) (by decide) ?_
  obtain ⟨g18, h⟩ := gd_some h
  refine k9_if_ne fX10_qGoesOnTest_39 rfl g18 (fun c17 => ?_) (fun c17 => ?_)
  · replace h := ite_f (c17) h
    cases h
    exact h1 rfl
  · replace h := ite_t (Classical.not_not.mp c17) h
    refine t_l fX10_qGoesOnTest_42 rfl rfl rfl rfl ?_
    obtain ⟨V19, v20, e21, h⟩ := bd_some h
    refine kcX10_qDrops fX10_qGoesOnTest_43 (hr0).1 rfl (q_X10_qDrops (hr0) e21) (by decide) ?_
    refine k9_goto fX10_qGoesOnTest_46 rfl ?_
    cases h
    exact h0 rfl

theorem tl_X10_qGoesOnTest_33 {X : mX} {n z : Nat} {G : mG} {r0 : Nat} (hr0 : is10 G r0) {V V' : mV} {fu : Nat} {q : Nat × Unit} {Q : Nat → Nat → mG → mV → Option Value → Prop} (k1 : q.1 = 1 → T X (3) 270 49 [some (.ref r0)] [] n z G V' Q) (h : lp (fun (s : Unit) V => B_X10_qGoesOnTest_33 G r0  V) fu () V = some (V', q)) : T X (3) 270 33 [some (.ref r0)] [] n z G V Q :=
  lp_go (P0 := fun s V => T X (3) 270 33 [some (.ref r0)] [] n z G V Q) (PE := fun t s V => (t = 1 → T X (3) 270 49 [some (.ref r0)] [] n z G V Q)) (fun s V V' q hb h0 h1 => tb_X10_qGoesOnTest_33 hr0  h0 (fun e => (h1 (by omega)) e) hb) fu () V V' q h k1

theorem tb_X10_qGoesOnTest_0 {X : mX} {n z : Nat} {G : mG} {r0 : Nat} (hr0 : is10 G r0) {V V' : mV} {q : Nat × Unit} {Q : Nat → Nat → mG → mV → Option Value → Prop} (h0 : q.1 = 0 → T X (3) 270 0 [some (.ref r0)] [] n z G V' Q) (h1 : q.1 = 1 → T X (3) 270 76 [some (.ref r0)] [] n z G V' Q) (h : B_X10_qGoesOnTest_0 G r0 V = some (V', q)) : T X (3) 270 0 [some (.ref r0)] [] n z G V Q := by
  unfold B_X10_qGoesOnTest_0 at h
  refine t_l fX10_qGoesOnTest_0 rfl rfl rfl rfl ?_
  refine k9_gi fX10_qGoesOnTest_1 (hr0).1 kg_10_5 ?_
  obtain ⟨g2, h⟩ := gd_some h
  refine k9_if_ne fX10_qGoesOnTest_4 rfl g2 (fun c1 => ?_) (fun c1 => ?_)
  · replace h := ite_f (c1) h
    cases h
    exact h1 rfl
  · replace h := ite_t (Classical.not_not.mp c1) h
    refine t_l fX10_qGoesOnTest_7 rfl rfl rfl rfl ?_
    obtain ⟨V3, v4, e5, h⟩ := bd_some h
    refine kcX10_look fX10_qGoesOnTest_8 (hr0).1 rfl (q_X10_look (hr0) e5) (by decide) ?_
    refine t_s fX10_qGoesOnTest_11 rfl rfl rfl ?_
    obtain ⟨g7, h⟩ := gd_some h
    refine k9_ic_ne fX10_qGoesOnTest_13 rfl g7 ⟨by decide, by decide⟩ (fun c6 => ?_) (fun c6 => ?_)
    · replace h := ite_f (c6) h
      cases h
      exact h1 rfl
    · replace h := ite_t (Classical.not_not.mp c6) h
      refine t_l fX10_qGoesOnTest_16 rfl rfl rfl rfl ?_
      obtain ⟨V8, v9, e10, h⟩ := bd_some h
      refine kcX10_qHasSquare fX10_qGoesOnTest_17 (hr0).1 rfl (q_X10_qHasSquare (hr0) e10) (by decide) ?_
      obtain ⟨g12, h⟩ := gd_some h
      refine k9_if_eq fX10_qGoesOnTest_20 rfl g12 (fun c11 => ?_) (fun c11 => ?_)
      · replace h := ite_t (c11) h
        cases h
        exact h1 rfl
      · replace h := ite_f (c11) h
        refine t_l fX10_qGoesOnTest_23 rfl rfl rfl rfl ?_
        refine t_s fX10_qGoesOnTest_24 rfl rfl rfl ?_
        refine k9_gi fX10_qGoesOnTest_25 (hr0).1 kg_10_2 ?_
        refine t_s fX10_qGoesOnTest_28 rfl rfl rfl ?_
        refine k9_iadd fX10_qGoesOnTest_29 ?_
        refine k9_pi fX10_qGoesOnTest_30 (hr0).1 kp_10_2 ?_
        replace h := lt_some h
        obtain ⟨V22, u23, e24, h⟩ := bd_some h
        refine tl_X10_qGoesOnTest_33 hr0  (fun e25 => ?_) e24
        refine t_l fX10_qGoesOnTest_49 rfl rfl rfl rfl ?_
        refine t_s fX10_qGoesOnTest_50 rfl rfl rfl ?_
        refine k9_gi fX10_qGoesOnTest_51 (hr0).1 kg_10_100 ?_
        refine t_s fX10_qGoesOnTest_54 rfl rfl rfl ?_
        refine k9_isub fX10_qGoesOnTest_55 ?_
        refine k9_pi fX10_qGoesOnTest_56 (hr0).1 kp_10_100 ?_
        replace h := lt_some h
        refine t_l fX10_qGoesOnTest_59 rfl rfl rfl rfl ?_
        refine t_s fX10_qGoesOnTest_60 rfl rfl rfl ?_
        refine k9_gi fX10_qGoesOnTest_61 (hr0).1 kg_10_101 ?_
        refine t_s fX10_qGoesOnTest_64 rfl rfl rfl ?_
        refine k9_isub fX10_qGoesOnTest_65 ?_
        refine k9_pi fX10_qGoesOnTest_66 (hr0).1 kp_10_101 ?_
        replace h := lt_some h
        refine t_l fX10_qGoesOnTest_69 rfl rfl rfl rfl ?_
        obtain ⟨V28, v29, e30, h⟩ := bd_some h
        refine kcX10_qDropsNots fX10_qGoesOnTest_70 (hr0).1 rfl (q_X10_qDropsNots (hr0) e30) (by decide) ?_
        refine k9_goto fX10_qGoesOnTest_73 rfl ?_
        cases h
        exact h0 rfl

theorem tl_X10_qGoesOnTest_0 {X : mX} {n z : Nat} {G : mG} {r0 : Nat} (hr0 : is10 G r0) {V V' : mV} {fu : Nat} {q : Nat × Unit} {Q : Nat → Nat → mG → mV → Option Value → Prop} (k1 : q.1 = 1 → T X (3) 270 76 [some (.ref r0)] [] n z G V' Q) (h : lp (fun (s : Unit) V => B_X10_qGoesOnTest_0 G r0  V) fu () V = some (V', q)) : T X (3) 270 0 [some (.ref r0)] [] n z G V Q :=
  lp_go (P0 := fun s V => T X (3) 270 0 [some (.ref r0)] [] n z G V Q) (PE := fun t s V => (t = 1 → T X (3) 270 76 [some (.ref r0)] [] n z G V Q)) (fun s V V' q hb h0 h1 => tb_X10_qGoesOnTest_0 hr0  h0 (fun e => (h1 (by omega)) e) hb) fu () V V' q h k1

theorem tb_X10_qGoesOnTest_137 {X : mX} {n z : Nat} {G : mG} {r0 : Nat} (hr0 : is10 G r0) {V V' : mV} {q : Nat × Unit} {Q : Nat → Nat → mG → mV → Option Value → Prop} (h0 : q.1 = 0 → T X (3) 270 137 [some (.ref r0)] [] n z G V' Q) (h1 : q.1 = 1 → T X (3) 270 162 [some (.ref r0)] [] n z G V' Q) (h : B_X10_qGoesOnTest_137 G r0 V = some (V', q)) : T X (3) 270 137 [some (.ref r0)] [] n z G V Q := by
  unfold B_X10_qGoesOnTest_137 at h
  refine t_l fX10_qGoesOnTest_137 rfl rfl rfl rfl ?_
  refine t_s fX10_qGoesOnTest_138 rfl rfl rfl ?_
  obtain ⟨V55, v56, e57, h⟩ := bd_some h
  refine kcX10_qIsOn fX10_qGoesOnTest_140 (hr0).1 rfl (q_X10_qIsOn (hr0) e57) (by decide) ?_
  obtain ⟨g59, h⟩ := gd_some h
  refine k9_if_ne fX10_qGoesOnTest_143 rfl g59 (fun c58 => ?_) (fun c58 => ?_)
  · replace h := ite_f (c58) h
    refine t_l fX10_qGoesOnTest_155 rfl rfl rfl rfl ?_
    obtain ⟨V60, v61, e62, h⟩ := bd_some h
    refine kcX10_qDrops fX10_qGoesOnTest_156 (hr0).1 rfl (q_X10_qDrops (hr0) e62) (by decide) ?_
    refine k9_goto fX10_qGoesOnTest_159 rfl ?_
    cases h
    exact h0 rfl
  · replace h := ite_t (Classical.not_not.mp c58) h
    refine t_l fX10_qGoesOnTest_146 rfl rfl rfl rfl ?_
    refine t_s fX10_qGoesOnTest_147 rfl rfl rfl ?_
    obtain ⟨V63, v64, e65, h⟩ := bd_some h
    refine kcX10_qIsOn fX10_qGoesOnTest_149 (hr0).1 rfl (q_X10_qIsOn (hr0) e65) (by decide) ?_
    obtain ⟨g67, h⟩ := gd_some h
    refine k9_if_eq fX10_qGoesOnTest_152 rfl g67 (fun c66 => ?_) (fun c66 => ?_)
    · replace h := ite_t (c66) h
      cases h
      exact h1 rfl
    · replace h := ite_f (c66) h
      refine t_l fX10_qGoesOnTest_155 rfl rfl rfl rfl ?_
      obtain ⟨V68, v69, e70, h⟩ := bd_some h
      refine kcX10_qDrops fX10_qGoesOnTest_156 (hr0).1 rfl (q_X10_qDrops (hr0) e70) (by decide) ?_
      refine k9_goto fX10_qGoesOnTest_159 rfl ?_
      cases h
      exact h0 rfl

theorem tl_X10_qGoesOnTest_137 {X : mX} {n z : Nat} {G : mG} {r0 : Nat} (hr0 : is10 G r0) {V V' : mV} {fu : Nat} {q : Nat × Unit} {Q : Nat → Nat → mG → mV → Option Value → Prop} (k1 : q.1 = 1 → T X (3) 270 162 [some (.ref r0)] [] n z G V' Q) (h : lp (fun (s : Unit) V => B_X10_qGoesOnTest_137 G r0  V) fu () V = some (V', q)) : T X (3) 270 137 [some (.ref r0)] [] n z G V Q :=
  lp_go (P0 := fun s V => T X (3) 270 137 [some (.ref r0)] [] n z G V Q) (PE := fun t s V => (t = 1 → T X (3) 270 162 [some (.ref r0)] [] n z G V Q)) (fun s V V' q hb h0 h1 => tb_X10_qGoesOnTest_137 hr0  h0 (fun e => (h1 (by omega)) e) hb) fu () V V' q h k1

theorem tb_X10_qGoesOnTest_87 {X : mX} {n z : Nat} {G : mG} {r0 : Nat} (hr0 : is10 G r0) {V V' : mV} {q : Nat × Unit} {Q : Nat → Nat → mG → mV → Option Value → Prop} (h0 : q.1 = 0 → T X (3) 270 87 [some (.ref r0)] [] n z G V' Q) (h1 : q.1 = 1 → T X (3) 270 103 [some (.ref r0)] [] n z G V' Q) (h : B_X10_qGoesOnTest_87 G r0 V = some (V', q)) : T X (3) 270 87 [some (.ref r0)] [] n z G V Q := by
  unfold B_X10_qGoesOnTest_87 at h
  refine t_l fX10_qGoesOnTest_87 rfl rfl rfl rfl ?_
  refine t_s fX10_qGoesOnTest_88 rfl rfl rfl ?_
  obtain ⟨V78, v79, e80, h⟩ := bd_some h
  refine kcX10_qIsOn fX10_qGoesOnTest_90 (hr0).1 rfl (q_X10_qIsOn (hr0) e80) (by decide) ?_
  obtain ⟨g82, h⟩ := gd_some h
  refine k9_if_eq fX10_qGoesOnTest_93 rfl g82 (fun c81 => ?_) (fun c81 => ?_)
  · replace h := ite_t (c81) h
    cases h
    exact h1 rfl
  · replace h := ite_f (c81) h
    refine t_l fX10_qGoesOnTest_96 rfl rfl rfl rfl ?_
    obtain ⟨V83, v84, e85, h⟩ := bd_some h
    refine kcX10_qDrops fX10_qGoesOnTest_97 (hr0).1 rfl (q_X10_qDrops (hr0) e85) (by decide) ?_
    refine k9_goto fX10_qGoesOnTest_100 rfl ?_
    cases h
    exact h0 rfl

theorem tl_X10_qGoesOnTest_87 {X : mX} {n z : Nat} {G : mG} {r0 : Nat} (hr0 : is10 G r0) {V V' : mV} {fu : Nat} {q : Nat × Unit} {Q : Nat → Nat → mG → mV → Option Value → Prop} (k1 : q.1 = 1 → T X (3) 270 103 [some (.ref r0)] [] n z G V' Q) (h : lp (fun (s : Unit) V => B_X10_qGoesOnTest_87 G r0  V) fu () V = some (V', q)) : T X (3) 270 87 [some (.ref r0)] [] n z G V Q :=
  lp_go (P0 := fun s V => T X (3) 270 87 [some (.ref r0)] [] n z G V Q) (PE := fun t s V => (t = 1 → T X (3) 270 103 [some (.ref r0)] [] n z G V Q)) (fun s V V' q hb h0 h1 => tb_X10_qGoesOnTest_87 hr0  h0 (fun e => (h1 (by omega)) e) hb) fu () V V' q h k1

theorem tj_X10_qGoesOnTest_J76 {X : mX} {n z : Nat} {G : mG} {r0 : Nat} (hr0 : is10 G r0) {V V' : mV} {v : Int} (h : F_X10_qGoesOnTest_J76 G r0 V = some (V', v)) : T X (3) 270 76 [some (.ref r0)] [] n z G V (qi n z G V' v) := by
  unfold F_X10_qGoesOnTest_J76 at h
  refine t_l fX10_qGoesOnTest_76 rfl rfl rfl rfl ?_
  refine t_l fX10_qGoesOnTest_77 rfl rfl rfl rfl ?_
  refine k9_gr fX10_qGoesOnTest_78 (hr0).1 kg_10_82 (s10_82r hr0) ?_
  obtain ⟨V35, v36, e37, h⟩ := bd_some h
  refine kcX10_takes fX10_qGoesOnTest_81 (hr0).1 rfl rfl (q_X10_takes (hr0) (qGf (s10_82s hr0)) e37) (by decide) ?_
  obtain ⟨g39, h⟩ := gd_some h
  refine k9_if_eq fX10_qGoesOnTest_84 rfl g39 (fun c38 => ?_) (fun c38 => ?_)
  · replace h := ite_t (c38) h
    refine t_l fX10_qGoesOnTest_126 rfl rfl rfl rfl ?_
    refine t_l fX10_qGoesOnTest_127 rfl rfl rfl rfl ?_
    refine k9_gr fX10_qGoesOnTest_128 (hr0).1 kg_10_83 (s10_83r hr0) ?_
    obtain ⟨V40, v41, e42, h⟩ := bd_some h
    refine kcX10_takes fX10_qGoesOnTest_131 (hr0).1 rfl rfl (q_X10_takes (hr0) (qGf (s10_83s hr0)) e42) (by decide) ?_
    obtain ⟨g44, h⟩ := gd_some h
    refine k9_if_eq fX10_qGoesOnTest_134 rfl g44 (fun c43 => ?_) (fun c43 => ?_)
    · replace h := ite_t (c43) h
      refine t_l fX10_qGoesOnTest_185 rfl rfl rfl rfl ?_
      refine k9_gi fX10_qGoesOnTest_186 (hr0).1 kg_10_5 ?_
      obtain ⟨g46, h⟩ := gd_some h
      refine k9_if_ne fX10_qGoesOnTest_189 rfl g46 (fun c45 => ?_) (fun c45 => ?_)
      · replace h := ite_f (c45) h
        refine t_s fX10_qGoesOnTest_208 rfl rfl rfl ?_
        refine t_ret fX10_qGoesOnTest_209 (rX10_qGoesOnTest _ (by decide)) ?_
        exact qf_i h
      · replace h := ite_t (Classical.not_not.mp c45) h
        refine t_l fX10_qGoesOnTest_192 rfl rfl rfl rfl ?_
        obtain ⟨V47, v48, e49, h⟩ := bd_some h
        refine kcX10_qHasSquare fX10_qGoesOnTest_193 (hr0).1 rfl (q_X10_qHasSquare (hr0) e49) (by decide) ?_
        obtain ⟨g51, h⟩ := gd_some h
        refine k9_if_eq fX10_qGoesOnTest_196 rfl g51 (fun c50 => ?_) (fun c50 => ?_)
        · replace h := ite_t (c50) h
          refine t_s fX10_qGoesOnTest_208 rfl rfl rfl ?_
          refine t_ret fX10_qGoesOnTest_209 (rX10_qGoesOnTest _ (by decide)) ?_
          exact qf_i h
        · replace h := ite_f (c50) h
          refine t_l fX10_qGoesOnTest_199 rfl rfl rfl rfl ?_
          refine t_s fX10_qGoesOnTest_200 rfl rfl rfl ?_
          refine t_l fX10_qGoesOnTest_201 rfl rfl rfl rfl ?_
          refine k9_gi fX10_qGoesOnTest_202 (hr0).1 kg_10_2 ?_
          obtain ⟨V52, v53, e54, h⟩ := bd_some h
          refine kcX10_fail fX10_qGoesOnTest_205 (hr0).1 rfl (q_X10_fail (hr0) e54) (by decide) ?_
          refine t_s fX10_qGoesOnTest_208 rfl rfl rfl ?_
          refine t_ret fX10_qGoesOnTest_209 (rX10_qGoesOnTest _ (by decide)) ?_
          exact qf_i h
    · replace h := ite_f (c43) h
      obtain ⟨V71, u72, e73, h⟩ := bd_some h
      refine tl_X10_qGoesOnTest_137 hr0  (fun e74 => ?_) e73
      refine t_l fX10_qGoesOnTest_162 rfl rfl rfl rfl ?_
      refine k9_gr fX10_qGoesOnTest_163 (hr0).1 kg_10_99 (s10_99r hr0) ?_
      refine t_l fX10_qGoesOnTest_166 rfl rfl rfl rfl ?_
      refine k9_gi fX10_qGoesOnTest_167 (hr0).1 kg_10_100 ?_
      refine t_s fX10_qGoesOnTest_170 rfl rfl rfl ?_
      obtain ⟨g75, h⟩ := gd_some h
      refine k9_is fX10_qGoesOnTest_172 (s10_99s hr0) g75.1 g75.2.1 g75.2.2 ?_
      replace h := lt_some h
      refine t_l fX10_qGoesOnTest_173 rfl rfl rfl rfl ?_
      refine t_s fX10_qGoesOnTest_174 rfl rfl rfl ?_
      refine k9_gi fX10_qGoesOnTest_175 (hr0).1 kg_10_100 ?_
      refine t_s fX10_qGoesOnTest_178 rfl rfl rfl ?_
      refine k9_iadd fX10_qGoesOnTest_179 ?_
      refine k9_pi fX10_qGoesOnTest_180 (hr0).1 kp_10_100 ?_
      replace h := lt_some h
      refine t_s fX10_qGoesOnTest_183 rfl rfl rfl ?_
      refine t_ret fX10_qGoesOnTest_184 (rX10_qGoesOnTest _ (by decide)) ?_
      exact qf_i h
  · replace h := ite_f (c38) h
    obtain ⟨V86, u87, e88, h⟩ := bd_some h
    refine tl_X10_qGoesOnTest_87 hr0  (fun e89 => ?_) e88
    refine t_l fX10_qGoesOnTest_103 rfl rfl rfl rfl ?_
    refine k9_gr fX10_qGoesOnTest_104 (hr0).1 kg_10_99 (s10_99r hr0) ?_
    refine t_l fX10_qGoesOnTest_107 rfl rfl rfl rfl ?_
    refine k9_gi fX10_qGoesOnTest_108 (hr0).1 kg_10_100 ?_
    refine t_s fX10_qGoesOnTest_111 rfl rfl rfl ?_
    obtain ⟨g90, h⟩ := gd_some h
    refine k9_is fX10_qGoesOnTest_113 (s10_99s hr0) g90.1 g90.2.1 g90.2.2 ?_
    replace h := lt_some h
    refine t_l fX10_qGoesOnTest_114 rfl rfl rfl rfl ?_
    refine t_s fX10_qGoesOnTest_115 rfl rfl rfl ?_
    refine k9_gi fX10_qGoesOnTest_116 (hr0).1 kg_10_100 ?_
    refine t_s fX10_qGoesOnTest_119 rfl rfl rfl ?_
    refine k9_iadd fX10_qGoesOnTest_120 ?_
    refine k9_pi fX10_qGoesOnTest_121 (hr0).1 kp_10_100 ?_
    replace h := lt_some h
    refine t_s fX10_qGoesOnTest_124 rfl rfl rfl ?_
    refine t_ret fX10_qGoesOnTest_125 (rX10_qGoesOnTest _ (by decide)) ?_
    exact qf_i h

theorem q_X10_qGoesOnTest {X : mX} {n z : Nat} {G : mG} {r0 : Nat} (hr0 : is10 G r0) {V V' : mV} {v : Int} (h : F_X10_qGoesOnTest G r0 V = some (V', v)) : Rn X (3) 270 [.ref r0] n z G V n z G V' (some (.int (iI v))) := by
  refine qi_toR (v := v) (L := [some (.ref r0)]) rfl ?_
  unfold F_X10_qGoesOnTest at h
  obtain ⟨V31, u32, e33, h⟩ := bd_some h
  refine tl_X10_qGoesOnTest_0 hr0  (fun e34 => ?_) e33
  exact tj_X10_qGoesOnTest_J76 hr0   h

theorem tb_X10_qTest_2 {X : mX} {n z : Nat} {G : mG} {r0 : Nat} (hr0 : is10 G r0) {x1 : Int} {j2 : Option Value} {V V' : mV} {q : Nat × Int} {Q : Nat → Nat → mG → mV → Option Value → Prop} (h0 : q.1 = 0 → ∀ j2 : Option Value, T X (8) 269 2 [some (.ref r0), some (.int (iI q.2)), j2] [] n z G V' Q) (h1 : q.1 = 1 → ∀ j2 : Option Value, T X (8) 269 110 [some (.ref r0), some (.int (iI q.2)), j2] [] n z G V' Q) (h : B_X10_qTest_2 G r0 x1 V = some (V', q)) : T X (8) 269 2 [some (.ref r0), some (.int (iI x1)), j2] [] n z G V Q := by
  unfold B_X10_qTest_2 at h
  refine t_l fX10_qTest_2 rfl rfl rfl rfl ?_
  obtain ⟨g2, h⟩ := gd_some h
  refine k9_if_eq fX10_qTest_3 rfl g2 (fun c1 => ?_) (fun c1 => ?_)
  · replace h := ite_t (c1) h
    cases h
    exact h1 rfl _
  · replace h := ite_f (c1) h
    refine t_l fX10_qTest_6 rfl rfl rfl rfl ?_
    refine k9_gi fX10_qTest_7 (hr0).1 kg_10_5 ?_
    obtain ⟨g4, h⟩ := gd_some h
    refine k9_if_ne fX10_qTest_10 rfl g4 (fun c3 => ?_) (fun c3 => ?_)
    · replace h := ite_f (c3) h
      cases h
      exact h1 rfl _
    · replace h := ite_t (Classical.not_not.mp c3) h
      refine t_l fX10_qTest_13 rfl rfl rfl rfl ?_
      obtain ⟨V5, v6, e7, h⟩ := bd_some h
      refine kcX10_look fX10_qTest_14 (hr0).1 rfl (q_X10_look (hr0) e7) (by decide) ?_
      refine t_l fX10_qTest_17 rfl rfl rfl rfl ?_
      refine t_l fX10_qTest_18 rfl rfl rfl rfl ?_
      refine t_s fX10_qTest_19 rfl rfl rfl ?_
      obtain ⟨g9, h⟩ := gd_some h
      refine k9_ic_ne fX10_qTest_21 rfl g9 ⟨by decide, by decide⟩ (fun c8 => ?_) (fun c8 => ?_)
      · replace h := ite_f (c8) h
        refine t_l fX10_qTest_47 rfl rfl rfl rfl ?_
        refine t_l fX10_qTest_48 rfl rfl rfl rfl ?_
        refine k9_gr fX10_qTest_49 (hr0).1 kg_10_81 (s10_81r hr0) ?_
        obtain ⟨V10, v11, e12, h⟩ := bd_some h
        refine kcX10_isHere fX10_qTest_52 (hr0).1 rfl rfl (q_X10_isHere (hr0) (qGf (s10_81s hr0)) e12) (by decide) ?_
        obtain ⟨g14, h⟩ := gd_some h
        refine k9_if_eq fX10_qTest_55 rfl g14 (fun c13 => ?_) (fun c13 => ?_)
        · replace h := ite_t (c13) h
          refine t_l fX10_qTest_79 rfl rfl rfl rfl ?_
          obtain ⟨V15, v16, e17, h⟩ := bd_some h
          refine kcX10_qFact fX10_qTest_80 (hr0).1 rfl (q_X10_qFact (hr0) e17) (by decide) ?_
          refine t_l fX10_qTest_83 rfl rfl rfl rfl ?_
          obtain ⟨V18, v19, e20, h⟩ := bd_some h
          refine kcX10_qDropsNots fX10_qTest_84 (hr0).1 rfl (q_X10_qDropsNots (hr0) e20) (by decide) ?_
          refine t_l fX10_qTest_87 rfl rfl rfl rfl ?_
          refine k9_gi fX10_qTest_88 (hr0).1 kg_10_5 ?_
          obtain ⟨g22, h⟩ := gd_some h
          refine k9_if_ne fX10_qTest_91 rfl g22 (fun c21 => ?_) (fun c21 => ?_)
          · replace h := ite_f (c21) h
            refine t_s fX10_qTest_105 rfl rfl rfl ?_
            refine t_l fX10_qTest_106 rfl rfl rfl rfl ?_
            refine k9_goto fX10_qTest_107 rfl ?_
            cases h
            exact h0 rfl _
          · replace h := ite_t (Classical.not_not.mp c21) h
            refine t_l fX10_qTest_94 rfl rfl rfl rfl ?_
            obtain ⟨V23, v24, e25, h⟩ := bd_some h
            refine kcX10_qGoesOnTest fX10_qTest_95 (hr0).1 rfl (q_X10_qGoesOnTest (hr0) e25) (by decide) ?_
            obtain ⟨g27, h⟩ := gd_some h
            refine k9_if_eq fX10_qTest_98 rfl g27 (fun c26 => ?_) (fun c26 => ?_)
            · replace h := ite_t (c26) h
              refine t_s fX10_qTest_105 rfl rfl rfl ?_
              refine t_l fX10_qTest_106 rfl rfl rfl rfl ?_
              refine k9_goto fX10_qTest_107 rfl ?_
              cases h
              exact h0 rfl _
            · replace h := ite_f (c26) h
              refine t_s fX10_qTest_101 rfl rfl rfl ?_
              refine k9_goto fX10_qTest_102 rfl ?_
              refine t_l fX10_qTest_106 rfl rfl rfl rfl ?_
              refine k9_goto fX10_qTest_107 rfl ?_
              cases h
              exact h0 rfl _
        · replace h := ite_f (c13) h
          refine t_l fX10_qTest_58 rfl rfl rfl rfl ?_
          refine t_s fX10_qTest_59 rfl rfl rfl ?_
          refine t_l fX10_qTest_61 rfl rfl rfl rfl ?_
          refine k9_gi fX10_qTest_62 (hr0).1 kg_10_2 ?_
          obtain ⟨V28, v29, e30, h⟩ := bd_some h
          refine kcX10_qOpens fX10_qTest_65 (hr0).1 rfl (q_X10_qOpens (hr0) e30) (by decide) ?_
          refine t_l fX10_qTest_68 rfl rfl rfl rfl ?_
          refine t_l fX10_qTest_69 rfl rfl rfl rfl ?_
          refine k9_gr fX10_qTest_70 (hr0).1 kg_10_81 (s10_81r hr0) ?_
          obtain ⟨V31, v32, e33, h⟩ := bd_some h
          refine kcX10_asks fX10_qTest_73 (hr0).1 rfl rfl (q_X10_asks (hr0) (qGf (s10_81s hr0)) e33) (by decide) ?_
          refine k9_goto fX10_qTest_76 rfl ?_
          cases h
          exact h0 rfl _
      · replace h := ite_t (Classical.not_not.mp c8) h
        refine t_l fX10_qTest_24 rfl rfl rfl rfl ?_
        refine t_s fX10_qTest_25 rfl rfl rfl ?_
        refine t_l fX10_qTest_27 rfl rfl rfl rfl ?_
        refine k9_gi fX10_qTest_28 (hr0).1 kg_10_2 ?_
        obtain ⟨V34, v35, e36, h⟩ := bd_some h
        refine kcX10_qOpens fX10_qTest_31 (hr0).1 rfl (q_X10_qOpens (hr0) e36) (by decide) ?_
        refine t_l fX10_qTest_34 rfl rfl rfl rfl ?_
        refine t_s fX10_qTest_35 rfl rfl rfl ?_
        refine k9_gi fX10_qTest_36 (hr0).1 kg_10_2 ?_
        refine t_s fX10_qTest_39 rfl rfl rfl ?_
        refine k9_iadd fX10_qTest_40 ?_
        refine k9_pi fX10_qTest_41 (hr0).1 kp_10_2 ?_
        replace h := lt_some h
        refine k9_goto fX10_qTest_44 rfl ?_
        cases h
        exact h0 rfl _

theorem tl_X10_qTest_2 {X : mX} {n z : Nat} {G : mG} {r0 : Nat} (hr0 : is10 G r0) {x1 : Int} {j2 : Option Value} {V V' : mV} {fu : Nat} {q : Nat × Int} {Q : Nat → Nat → mG → mV → Option Value → Prop} (k1 : q.1 = 1 → ∀ j2 : Option Value, T X (8) 269 110 [some (.ref r0), some (.int (iI q.2)), j2] [] n z G V' Q) (h : lp (fun (s : Int) V => B_X10_qTest_2 G r0 s V) fu x1 V = some (V', q)) : T X (8) 269 2 [some (.ref r0), some (.int (iI x1)), j2] [] n z G V Q :=
  lp_go (P0 := fun s V => ∀ j2 : Option Value, T X (8) 269 2 [some (.ref r0), some (.int (iI s)), j2] [] n z G V Q) (PE := fun t s V => (t = 1 → ∀ j2 : Option Value, T X (8) 269 110 [some (.ref r0), some (.int (iI s)), j2] [] n z G V Q)) (fun s V V' q hb h0 h1 => fun _ => tb_X10_qTest_2 hr0  h0 (fun e => (h1 (by omega)) e) hb) fu x1 V V' q h k1 _

theorem tb_X10_qTest_110 {X : mX} {n z : Nat} {G : mG} {r0 : Nat} (hr0 : is10 G r0) {j1 j2 : Option Value} {V V' : mV} {q : Nat × Unit} {Q : Nat → Nat → mG → mV → Option Value → Prop} (h0 : q.1 = 0 → ∀ j1 j2 : Option Value, T X (8) 269 110 [some (.ref r0), j1, j2] [] n z G V' Q) (h1 : q.1 = 1 → ∀ j1 j2 : Option Value, T X (8) 269 131 [some (.ref r0), j1, j2] [] n z G V' Q) (h : B_X10_qTest_110 G r0 V = some (V', q)) : T X (8) 269 110 [some (.ref r0), j1, j2] [] n z G V Q := by
  unfold B_X10_qTest_110 at h
  refine t_l fX10_qTest_110 rfl rfl rfl rfl ?_
  refine k9_gi fX10_qTest_111 (hr0).1 kg_10_5 ?_
  obtain ⟨g43, h⟩ := gd_some h
  refine k9_if_ne fX10_qTest_114 rfl g43 (fun c42 => ?_) (fun c42 => ?_)
  · replace h := ite_f (c42) h
    cases h
    exact h1 rfl _ _
  · replace h := ite_t (Classical.not_not.mp c42) h
    refine t_l fX10_qTest_117 rfl rfl rfl rfl ?_
    refine k9_gi fX10_qTest_118 (hr0).1 kg_10_100 ?_
    obtain ⟨g45, h⟩ := gd_some h
    refine k9_if_le fX10_qTest_121 rfl g45 (fun c44 => ?_) (fun c44 => ?_)
    · replace h := ite_t (c44) h
      cases h
      exact h1 rfl _ _
    · replace h := ite_f (c44) h
      refine t_l fX10_qTest_124 rfl rfl rfl rfl ?_
      obtain ⟨V46, v47, e48, h⟩ := bd_some h
      refine kcX10_qDrops fX10_qTest_125 (hr0).1 rfl (q_X10_qDrops (hr0) e48) (by decide) ?_
      refine k9_goto fX10_qTest_128 rfl ?_
      cases h
      exact h0 rfl _ _

theorem tl_X10_qTest_110 {X : mX} {n z : Nat} {G : mG} {r0 : Nat} (hr0 : is10 G r0) {j1 j2 : Option Value} {V V' : mV} {fu : Nat} {q : Nat × Unit} {Q : Nat → Nat → mG → mV → Option Value → Prop} (k1 : q.1 = 1 → ∀ j1 j2 : Option Value, T X (8) 269 131 [some (.ref r0), j1, j2] [] n z G V' Q) (h : lp (fun (s : Unit) V => B_X10_qTest_110 G r0  V) fu () V = some (V', q)) : T X (8) 269 110 [some (.ref r0), j1, j2] [] n z G V Q :=
  lp_go (P0 := fun s V => ∀ j1 j2 : Option Value, T X (8) 269 110 [some (.ref r0), j1, j2] [] n z G V Q) (PE := fun t s V => (t = 1 → ∀ j1 j2 : Option Value, T X (8) 269 131 [some (.ref r0), j1, j2] [] n z G V Q)) (fun s V V' q hb h0 h1 => fun _ _ => tb_X10_qTest_110 hr0  h0 (fun e => (h1 (by omega)) e) hb) fu () V V' q h k1 _ _

theorem q_X10_qTest {X : mX} {n z : Nat} {G : mG} {r0 : Nat} (hr0 : is10 G r0) {V V' : mV} {v : Int} (h : F_X10_qTest G r0 V = some (V', v)) : Rn X (8) 269 [.ref r0] n z G V n z G V' none := by
  refine qv_toR (v := v) (L := [some (.ref r0), none, none]) rfl ?_
  unfold F_X10_qTest at h
  refine t_s fX10_qTest_0 rfl rfl rfl ?_
  refine t_l fX10_qTest_1 rfl rfl rfl rfl ?_
  obtain ⟨V38, u39, e40, h⟩ := bd_some h
  refine tl_X10_qTest_2 hr0  (fun e41 j2 => ?_) e40
  obtain ⟨V49, u50, e51, h⟩ := bd_some h
  refine tl_X10_qTest_110 hr0  (fun e52 j1 j2 => ?_) e51
  refine t_ret fX10_qTest_131 rX10_qTest ?_
  exact qf_v h

theorem tb_X10_codesTold_103 {X : mX} {n z : Nat} {G : mG} {r0 : Nat} (hr0 : is10 G r0) {x1 x2 x3 : Int} {V V' : mV} {q : Nat × Int} {Q : Nat → Nat → mG → mV → Option Value → Prop} (h0 : q.1 = 0 → T X (9) 184 103 [some (.ref r0), some (.int (iI x1)), some (.int (iI x2)), some (.int (iI q.2))] [] n z G V' Q) (h1 : q.1 = 1 → T X (9) 184 142 [some (.ref r0), some (.int (iI x1)), some (.int (iI x2)), some (.int (iI q.2))] [] n z G V' Q) (h : B_X10_codesTold_103 G r0 x1 x2 x3 V = some (V', q)) : T X (9) 184 103 [some (.ref r0), some (.int (iI x1)), some (.int (iI x2)), some (.int (iI x3))] [] n z G V Q := by
  unfold B_X10_codesTold_103 at h
  refine t_l fX10_codesTold_103 rfl rfl rfl rfl ?_
  refine t_l fX10_codesTold_104 rfl rfl rfl rfl ?_
  refine k9_gi fX10_codesTold_105 (hr0).1 kg_10_98 ?_
  obtain ⟨g22, h⟩ := gd_some h
  obtain ⟨g23, h⟩ := gd_some h
  refine k9_ic_ge fX10_codesTold_108 rfl g22 g23 (fun c21 => ?_) (fun c21 => ?_)
  · replace h := ite_t (c21) h
    cases h
    exact h1 rfl
  · replace h := ite_f (c21) h
    refine t_l fX10_codesTold_111 rfl rfl rfl rfl ?_
    refine k9_gr fX10_codesTold_112 (hr0).1 kg_10_45 (s10_45r hr0) ?_
    refine t_l fX10_codesTold_115 rfl rfl rfl rfl ?_
    refine k9_gi fX10_codesTold_116 (hr0).1 kg_10_46 ?_
    refine t_l fX10_codesTold_119 rfl rfl rfl rfl ?_
    refine k9_gr fX10_codesTold_120 (hr0).1 kg_10_97 (s10_97r hr0) ?_
    refine t_l fX10_codesTold_123 rfl rfl rfl rfl ?_
    obtain ⟨g24, h⟩ := gd_some h
    refine k9_ia fX10_codesTold_124 (s10_97s hr0) g24.1 g24.2.1 g24.2.2 ?_
    obtain ⟨g25, h⟩ := gd_some h
    refine k9_is fX10_codesTold_125 (s10_45s hr0) g25.1 g25.2.1 g25.2.2 ?_
    replace h := lt_some h
    refine t_l fX10_codesTold_126 rfl rfl rfl rfl ?_
    refine t_s fX10_codesTold_127 rfl rfl rfl ?_
    refine k9_gi fX10_codesTold_128 (hr0).1 kg_10_46 ?_
    refine t_s fX10_codesTold_131 rfl rfl rfl ?_
    refine k9_iadd fX10_codesTold_132 ?_
    refine k9_pi fX10_codesTold_133 (hr0).1 kp_10_46 ?_
    replace h := lt_some h
    replace h := lt_some h
    refine k9_iinc fX10_codesTold_136 rfl (Nat.le_of_ble_eq_true rfl) rfl ?_
    refine k9_goto fX10_codesTold_139 rfl ?_
    cases h
    exact h0 rfl

theorem tl_X10_codesTold_103 {X : mX} {n z : Nat} {G : mG} {r0 : Nat} (hr0 : is10 G r0) {x1 x2 x3 : Int} {V V' : mV} {fu : Nat} {q : Nat × Int} {Q : Nat → Nat → mG → mV → Option Value → Prop} (k1 : q.1 = 1 → T X (9) 184 142 [some (.ref r0), some (.int (iI x1)), some (.int (iI x2)), some (.int (iI q.2))] [] n z G V' Q) (h : lp (fun (s : Int) V => B_X10_codesTold_103 G r0 x1 x2 s V) fu x3 V = some (V', q)) : T X (9) 184 103 [some (.ref r0), some (.int (iI x1)), some (.int (iI x2)), some (.int (iI x3))] [] n z G V Q :=
  lp_go (P0 := fun s V => T X (9) 184 103 [some (.ref r0), some (.int (iI x1)), some (.int (iI x2)), some (.int (iI s))] [] n z G V Q) (PE := fun t s V => (t = 1 → T X (9) 184 142 [some (.ref r0), some (.int (iI x1)), some (.int (iI x2)), some (.int (iI s))] [] n z G V Q)) (fun s V V' q hb h0 h1 => tb_X10_codesTold_103 hr0  h0 (fun e => (h1 (by omega)) e) hb) fu x3 V V' q h k1

theorem tj_X10_codesTold_J83 {X : mX} {n z : Nat} {G : mG} {r0 : Nat} (hr0 : is10 G r0) {x1 x2 : Int} {j3 : Option Value} {V V' : mV} {v : Int} (h : F_X10_codesTold_J83 G r0 x1 x2 V = some (V', v)) : T X (9) 184 83 [some (.ref r0), some (.int (iI x1)), some (.int (iI x2)), j3] [] n z G V (qv n z G V' v) := by
  unfold F_X10_codesTold_J83 at h
  refine t_l fX10_codesTold_83 rfl rfl rfl rfl ?_
  refine k9_gi fX10_codesTold_84 (hr0).1 kg_10_5 ?_
  obtain ⟨g18, h⟩ := gd_some h
  refine k9_if_eq fX10_codesTold_87 rfl g18 (fun c17 => ?_) (fun c17 => ?_)
  · replace h := ite_t (c17) h
    refine t_l fX10_codesTold_91 rfl rfl rfl rfl ?_
    refine k9_gr fX10_codesTold_92 (hr0).1 kg_10_43 (s10_43r hr0) ?_
    refine t_l fX10_codesTold_95 rfl rfl rfl rfl ?_
    refine t_l fX10_codesTold_96 rfl rfl rfl rfl ?_
    refine k9_gi fX10_codesTold_97 (hr0).1 kg_10_46 ?_
    obtain ⟨g19, h⟩ := gd_some h
    refine k9_is fX10_codesTold_100 (s10_43s hr0) g19.1 g19.2.1 g19.2.2 ?_
    replace h := lt_some h
    refine t_s fX10_codesTold_101 rfl rfl rfl ?_
    refine t_l fX10_codesTold_102 rfl rfl rfl rfl ?_
    obtain ⟨V29, u30, e31, h⟩ := bd_some h
    refine tl_X10_codesTold_103 hr0  (fun e32 => ?_) e31
    refine t_l fX10_codesTold_142 rfl rfl rfl rfl ?_
    refine k9_gr fX10_codesTold_143 (hr0).1 kg_10_44 (s10_44r hr0) ?_
    refine t_l fX10_codesTold_146 rfl rfl rfl rfl ?_
    refine t_l fX10_codesTold_147 rfl rfl rfl rfl ?_
    refine k9_gi fX10_codesTold_148 (hr0).1 kg_10_46 ?_
    refine k9_is fX10_codesTold_151 (s10_44s hr0) g19.1 g19.2.1 g19.2.2 ?_
    replace h := lt_some h
    refine t_ret fX10_codesTold_152 rX10_codesTold ?_
    exact qf_v h
  · replace h := ite_f (c17) h
    refine t_ret fX10_codesTold_90 rX10_codesTold ?_
    exact qf_v h

theorem tj_X10_codesTold_J44 {X : mX} {n z : Nat} {G : mG} {r0 : Nat} (hr0 : is10 G r0) {x1 x2 s1 : Int} {j3 : Option Value} {V V' : mV} {v : Int} (h : F_X10_codesTold_J44 G r0 x1 x2 s1 V = some (V', v)) : T X (9) 184 44 [some (.ref r0), some (.int (iI x1)), some (.int (iI x2)), j3] [.int (iI s1), .ref r0] n z G V (qv n z G V' v) := by
  unfold F_X10_codesTold_J44 at h
  refine k9_pi fX10_codesTold_44 (hr0).1 kp_10_48 ?_
  replace h := lt_some h
  refine t_l fX10_codesTold_47 rfl rfl rfl rfl ?_
  refine t_s fX10_codesTold_48 rfl rfl rfl ?_
  refine k9_pi fX10_codesTold_49 (hr0).1 kp_10_98 ?_
  replace h := lt_some h
  refine t_l fX10_codesTold_52 rfl rfl rfl rfl ?_
  refine t_s fX10_codesTold_53 rfl rfl rfl ?_
  refine k9_pi fX10_codesTold_54 (hr0).1 kp_10_100 ?_
  replace h := lt_some h
  refine t_l fX10_codesTold_57 rfl rfl rfl rfl ?_
  refine t_s fX10_codesTold_58 rfl rfl rfl ?_
  refine k9_pi fX10_codesTold_59 (hr0).1 kp_10_101 ?_
  replace h := lt_some h
  refine t_l fX10_codesTold_62 rfl rfl rfl rfl ?_
  refine t_s fX10_codesTold_63 rfl rfl rfl ?_
  refine k9_pi fX10_codesTold_64 (hr0).1 kp_10_102 ?_
  replace h := lt_some h
  refine t_l fX10_codesTold_67 rfl rfl rfl rfl ?_
  refine t_s fX10_codesTold_68 rfl rfl rfl ?_
  obtain ⟨g13, h⟩ := gd_some h
  refine k9_ic_ge fX10_codesTold_69 rfl g13 ⟨by decide, by decide⟩ (fun c12 => ?_) (fun c12 => ?_)
  · replace h := ite_t (c12) h
    refine t_l fX10_codesTold_79 rfl rfl rfl rfl ?_
    obtain ⟨V14, v15, e16, h⟩ := bd_some h
    refine kcX10_qTest fX10_codesTold_80 (hr0).1 rfl (q_X10_qTest (hr0) e16) (by decide) ?_
    exact tj_X10_codesTold_J83 hr0   h
  · replace h := ite_f (c12) h
    refine t_l fX10_codesTold_72 rfl rfl rfl rfl ?_
    obtain ⟨V34, v35, e36, h⟩ := bd_some h
    refine kcX10_qSums fX10_codesTold_73 (hr0).1 rfl (q_X10_qSums (hr0) e36) (by decide) ?_
    refine k9_goto fX10_codesTold_76 rfl ?_
    exact tj_X10_codesTold_J83 hr0   h

theorem tj_X10_codesTold_J23 {X : mX} {n z : Nat} {G : mG} {r0 : Nat} (hr0 : is10 G r0) {x1 x2 : Int} {j3 : Option Value} {V V' : mV} {v : Int} (h : F_X10_codesTold_J23 G r0 x1 x2 V = some (V', v)) : T X (9) 184 23 [some (.ref r0), some (.int (iI x1)), some (.int (iI x2)), j3] [] n z G V (qv n z G V' v) := by
  unfold F_X10_codesTold_J23 at h
  refine t_l fX10_codesTold_23 rfl rfl rfl rfl ?_
  refine k9_gi fX10_codesTold_24 (hr0).1 kg_10_5 ?_
  obtain ⟨g4, h⟩ := gd_some h
  refine k9_if_eq fX10_codesTold_27 rfl g4 (fun c3 => ?_) (fun c3 => ?_)
  · replace h := ite_t (c3) h
    refine t_l fX10_codesTold_31 rfl rfl rfl rfl ?_
    refine t_l fX10_codesTold_32 rfl rfl rfl rfl ?_
    refine t_s fX10_codesTold_33 rfl rfl rfl ?_
    obtain ⟨g6, h⟩ := gd_some h
    refine k9_ic_ge fX10_codesTold_34 rfl g6 ⟨by decide, by decide⟩ (fun c5 => ?_) (fun c5 => ?_)
    · replace h := ite_t (c5) h
      refine t_l fX10_codesTold_41 rfl rfl rfl rfl ?_
      refine t_s fX10_codesTold_42 rfl rfl rfl ?_
      refine k9_isub fX10_codesTold_43 ?_
      exact tj_X10_codesTold_J44 hr0   h
    · replace h := ite_f (c5) h
      refine t_s fX10_codesTold_37 rfl rfl rfl ?_
      refine k9_goto fX10_codesTold_38 rfl ?_
      exact tj_X10_codesTold_J44 hr0   h
  · replace h := ite_f (c3) h
    refine t_ret fX10_codesTold_30 rX10_codesTold ?_
    exact qf_v h

theorem q_X10_codesTold {X : mX} {n z : Nat} {G : mG} {r0 : Nat} (hr0 : is10 G r0) {x1 x2 : Int} {V V' : mV} {v : Int} (h : F_X10_codesTold G r0 x1 x2 V = some (V', v)) : Rn X (9) 184 [.ref r0, .int (iI x1), .int (iI x2)] n z G V n z G V' none := by
  refine qv_toR (v := v) (L := [some (.ref r0), some (.int (iI x1)), some (.int (iI x2)), none]) rfl ?_
  unfold F_X10_codesTold at h
  refine t_l fX10_codesTold_0 rfl rfl rfl rfl ?_
  refine k9_gi fX10_codesTold_1 (hr0).1 kg_10_5 ?_
  obtain ⟨g2, h⟩ := gd_some h
  refine k9_if_ne fX10_codesTold_4 rfl g2 (fun c1 => ?_) (fun c1 => ?_)
  · replace h := ite_f (c1) h
    exact tj_X10_codesTold_J23 hr0   h
  · replace h := ite_t (Classical.not_not.mp c1) h
    refine t_l fX10_codesTold_7 rfl rfl rfl rfl ?_
    refine k9_gr fX10_codesTold_8 (hr0).1 kg_10_43 (s10_43r hr0) ?_
    refine t_l fX10_codesTold_11 rfl rfl rfl rfl ?_
    obtain ⟨g37, h⟩ := gd_some h
    refine k9_ia fX10_codesTold_12 (s10_43s hr0) g37.1 g37.2.1 g37.2.2 ?_
    refine t_s fX10_codesTold_13 rfl rfl rfl ?_
    obtain ⟨g39, h⟩ := gd_some h
    refine k9_ic_eq fX10_codesTold_14 rfl g39 ⟨by decide, by decide⟩ (fun c38 => ?_) (fun c38 => ?_)
    · replace h := ite_t (c38) h
      exact tj_X10_codesTold_J23 hr0   h
    · replace h := ite_f (c38) h
      refine t_l fX10_codesTold_17 rfl rfl rfl rfl ?_
      refine t_s fX10_codesTold_18 rfl rfl rfl ?_
      refine t_l fX10_codesTold_19 rfl rfl rfl rfl ?_
      obtain ⟨V40, v41, e42, h⟩ := bd_some h
      refine kcX10_fail fX10_codesTold_20 (hr0).1 rfl (q_X10_fail (hr0) e42) (by decide) ?_
      exact tj_X10_codesTold_J23 hr0   h

theorem tj_X10_statementTold_J188 {X : mX} {n z : Nat} {G : mG} {r0 : Nat} (hr0 : is10 G r0) {j1 : Option Value} {V V' : mV} {v : Int} (h : F_X10_statementTold_J188 G r0 V = some (V', v)) : T X (10) 185 188 [some (.ref r0), j1] [] n z G V (qv n z G V' v) := by
  unfold F_X10_statementTold_J188 at h
  refine t_l fX10_statementTold_188 rfl rfl rfl rfl ?_
  refine t_s fX10_statementTold_189 rfl rfl rfl ?_
  obtain ⟨V50, v51, e52, h⟩ := bd_some h
  refine kcX10_asksSign fX10_statementTold_191 (hr0).1 rfl (q_X10_asksSign (hr0) e52) (by decide) ?_
  refine t_l fX10_statementTold_194 rfl rfl rfl rfl ?_
  refine t_s fX10_statementTold_195 rfl rfl rfl ?_
  refine k9_gi fX10_statementTold_196 (hr0).1 kg_10_47 ?_
  refine t_s fX10_statementTold_199 rfl rfl rfl ?_
  refine k9_iadd fX10_statementTold_200 ?_
  refine k9_pi fX10_statementTold_201 (hr0).1 kp_10_47 ?_
  replace h := lt_some h
  refine t_ret fX10_statementTold_204 rX10_statementTold ?_
  exact qf_v h

theorem q_X10_statementTold {X : mX} {n z : Nat} {G : mG} {r0 : Nat} (hr0 : is10 G r0) {V V' : mV} {v : Int} (h : F_X10_statementTold G r0 V = some (V', v)) : Rn X (10) 185 [.ref r0] n z G V n z G V' none := by
  refine qv_toR (v := v) (L := [some (.ref r0), none]) rfl ?_
  unfold F_X10_statementTold at h
  refine t_l fX10_statementTold_0 rfl rfl rfl rfl ?_
  refine k9_gi fX10_statementTold_1 (hr0).1 kg_10_2 ?_
  replace h := lt_some h
  refine t_l fX10_statementTold_4 rfl rfl rfl rfl ?_
  refine t_l fX10_statementTold_5 rfl rfl rfl rfl ?_
  refine k9_gi fX10_statementTold_6 (hr0).1 kg_10_47 ?_
  refine t_s fX10_statementTold_9 rfl rfl rfl ?_
  obtain ⟨g3, h⟩ := gd_some h
  refine k9_ic_ne fX10_statementTold_11 rfl g3 ⟨by decide, by decide⟩ (fun c2 => ?_) (fun c2 => ?_)
  · replace h := ite_f (c2) h
    refine t_l fX10_statementTold_21 rfl rfl rfl rfl ?_
    refine t_l fX10_statementTold_22 rfl rfl rfl rfl ?_
    refine k9_gr fX10_statementTold_23 (hr0).1 kg_10_11 (s10_11r hr0) ?_
    obtain ⟨V4, v5, e6, h⟩ := bd_some h
    refine kcX10_takes fX10_statementTold_26 (hr0).1 rfl rfl (q_X10_takes (hr0) (qGf (s10_11s hr0)) e6) (by decide) ?_
    obtain ⟨g8, h⟩ := gd_some h
    refine k9_if_eq fX10_statementTold_29 rfl g8 (fun c7 => ?_) (fun c7 => ?_)
    · replace h := ite_t (c7) h
      refine t_l fX10_statementTold_40 rfl rfl rfl rfl ?_
      refine t_l fX10_statementTold_41 rfl rfl rfl rfl ?_
      refine k9_gr fX10_statementTold_42 (hr0).1 kg_10_13 (s10_13r hr0) ?_
      obtain ⟨V9, v10, e11, h⟩ := bd_some h
      refine kcX10_takes fX10_statementTold_45 (hr0).1 rfl rfl (q_X10_takes (hr0) (qGf (s10_13s hr0)) e11) (by decide) ?_
      obtain ⟨g13, h⟩ := gd_some h
      refine k9_if_eq fX10_statementTold_48 rfl g13 (fun c12 => ?_) (fun c12 => ?_)
      · replace h := ite_t (c12) h
        refine t_l fX10_statementTold_59 rfl rfl rfl rfl ?_
        refine t_l fX10_statementTold_60 rfl rfl rfl rfl ?_
        refine k9_gr fX10_statementTold_61 (hr0).1 kg_10_15 (s10_15r hr0) ?_
        obtain ⟨V14, v15, e16, h⟩ := bd_some h
        refine kcX10_takes fX10_statementTold_64 (hr0).1 rfl rfl (q_X10_takes (hr0) (qGf (s10_15s hr0)) e16) (by decide) ?_
        obtain ⟨g18, h⟩ := gd_some h
        refine k9_if_eq fX10_statementTold_67 rfl g18 (fun c17 => ?_) (fun c17 => ?_)
        · replace h := ite_t (c17) h
          refine t_l fX10_statementTold_78 rfl rfl rfl rfl ?_
          refine t_l fX10_statementTold_79 rfl rfl rfl rfl ?_
          refine k9_gr fX10_statementTold_80 (hr0).1 kg_10_17 (s10_17r hr0) ?_
          obtain ⟨V19, v20, e21, h⟩ := bd_some h
          refine kcX10_takes fX10_statementTold_83 (hr0).1 rfl rfl (q_X10_takes (hr0) (qGf (s10_17s hr0)) e21) (by decide) ?_
          obtain ⟨g23, h⟩ := gd_some h
          refine k9_if_eq fX10_statementTold_86 rfl g23 (fun c22 => ?_) (fun c22 => ?_)
          · replace h := ite_t (c22) h
            refine t_l fX10_statementTold_96 rfl rfl rfl rfl ?_
            refine t_l fX10_statementTold_97 rfl rfl rfl rfl ?_
            refine k9_gr fX10_statementTold_98 (hr0).1 kg_10_18 (s10_18r hr0) ?_
            obtain ⟨V24, v25, e26, h⟩ := bd_some h
            refine kcX10_takes fX10_statementTold_101 (hr0).1 rfl rfl (q_X10_takes (hr0) (qGf (s10_18s hr0)) e26) (by decide) ?_
            obtain ⟨g28, h⟩ := gd_some h
            refine k9_if_eq fX10_statementTold_104 rfl g28 (fun c27 => ?_) (fun c27 => ?_)
            · replace h := ite_t (c27) h
              refine t_l fX10_statementTold_114 rfl rfl rfl rfl ?_
              refine t_l fX10_statementTold_115 rfl rfl rfl rfl ?_
              refine k9_gr fX10_statementTold_116 (hr0).1 kg_10_19 (s10_19r hr0) ?_
              obtain ⟨V29, v30, e31, h⟩ := bd_some h
              refine kcX10_takes fX10_statementTold_119 (hr0).1 rfl rfl (q_X10_takes (hr0) (qGf (s10_19s hr0)) e31) (by decide) ?_
              obtain ⟨g33, h⟩ := gd_some h
              refine k9_if_eq fX10_statementTold_122 rfl g33 (fun c32 => ?_) (fun c32 => ?_)
              · replace h := ite_t (c32) h
                refine t_l fX10_statementTold_134 rfl rfl rfl rfl ?_
                refine t_l fX10_statementTold_135 rfl rfl rfl rfl ?_
                refine k9_gr fX10_statementTold_136 (hr0).1 kg_10_20 (s10_20r hr0) ?_
                obtain ⟨V34, v35, e36, h⟩ := bd_some h
                refine kcX10_takes fX10_statementTold_139 (hr0).1 rfl rfl (q_X10_takes (hr0) (qGf (s10_20s hr0)) e36) (by decide) ?_
                obtain ⟨g38, h⟩ := gd_some h
                refine k9_if_eq fX10_statementTold_142 rfl g38 (fun c37 => ?_) (fun c37 => ?_)
                · replace h := ite_t (c37) h
                  refine t_l fX10_statementTold_154 rfl rfl rfl rfl ?_
                  refine t_l fX10_statementTold_155 rfl rfl rfl rfl ?_
                  refine k9_gr fX10_statementTold_156 (hr0).1 kg_10_21 (s10_21r hr0) ?_
                  obtain ⟨V39, v40, e41, h⟩ := bd_some h
                  refine kcX10_takes fX10_statementTold_159 (hr0).1 rfl rfl (q_X10_takes (hr0) (qGf (s10_21s hr0)) e41) (by decide) ?_
                  obtain ⟨g43, h⟩ := gd_some h
                  refine k9_if_eq fX10_statementTold_162 rfl g43 (fun c42 => ?_) (fun c42 => ?_)
                  · replace h := ite_t (c42) h
                    refine t_l fX10_statementTold_174 rfl rfl rfl rfl ?_
                    refine t_l fX10_statementTold_175 rfl rfl rfl rfl ?_
                    refine k9_gr fX10_statementTold_176 (hr0).1 kg_10_22 (s10_22r hr0) ?_
                    obtain ⟨V44, v45, e46, h⟩ := bd_some h
                    refine kcX10_asks fX10_statementTold_179 (hr0).1 rfl rfl (q_X10_asks (hr0) (qGf (s10_22s hr0)) e46) (by decide) ?_
                    refine t_l fX10_statementTold_182 rfl rfl rfl rfl ?_
                    refine t_s fX10_statementTold_183 rfl rfl rfl ?_
                    refine t_l fX10_statementTold_184 rfl rfl rfl rfl ?_
                    obtain ⟨V47, v48, e49, h⟩ := bd_some h
                    refine kcX10_codesTold fX10_statementTold_185 (hr0).1 rfl (q_X10_codesTold (hr0) e49) (by decide) ?_
                    exact tj_X10_statementTold_J188 hr0   h
                  · replace h := ite_f (c42) h
                    refine t_l fX10_statementTold_165 rfl rfl rfl rfl ?_
                    refine t_s fX10_statementTold_166 rfl rfl rfl ?_
                    refine t_l fX10_statementTold_167 rfl rfl rfl rfl ?_
                    obtain ⟨V54, v55, e56, h⟩ := bd_some h
                    refine kcX10_codesTold fX10_statementTold_168 (hr0).1 rfl (q_X10_codesTold (hr0) e56) (by decide) ?_
                    refine k9_goto fX10_statementTold_171 rfl ?_
                    exact tj_X10_statementTold_J188 hr0   h
                · replace h := ite_f (c37) h
                  refine t_l fX10_statementTold_145 rfl rfl rfl rfl ?_
                  refine t_s fX10_statementTold_146 rfl rfl rfl ?_
                  refine t_l fX10_statementTold_147 rfl rfl rfl rfl ?_
                  obtain ⟨V57, v58, e59, h⟩ := bd_some h
                  refine kcX10_codesTold fX10_statementTold_148 (hr0).1 rfl (q_X10_codesTold (hr0) e59) (by decide) ?_
                  refine k9_goto fX10_statementTold_151 rfl ?_
                  exact tj_X10_statementTold_J188 hr0   h
              · replace h := ite_f (c32) h
                refine t_l fX10_statementTold_125 rfl rfl rfl rfl ?_
                refine t_s fX10_statementTold_126 rfl rfl rfl ?_
                refine t_l fX10_statementTold_127 rfl rfl rfl rfl ?_
                obtain ⟨V60, v61, e62, h⟩ := bd_some h
                refine kcX10_codesTold fX10_statementTold_128 (hr0).1 rfl (q_X10_codesTold (hr0) e62) (by decide) ?_
                refine k9_goto fX10_statementTold_131 rfl ?_
                exact tj_X10_statementTold_J188 hr0   h
            · replace h := ite_f (c27) h
              refine t_l fX10_statementTold_107 rfl rfl rfl rfl ?_
              obtain ⟨V63, v64, e65, h⟩ := bd_some h
              refine kcX10_knownTold fX10_statementTold_108 (hr0).1 rfl (q_X10_knownTold (hr0) e65) (by decide) ?_
              refine k9_goto fX10_statementTold_111 rfl ?_
              exact tj_X10_statementTold_J188 hr0   h
          · replace h := ite_f (c22) h
            refine t_l fX10_statementTold_89 rfl rfl rfl rfl ?_
            obtain ⟨V66, v67, e68, h⟩ := bd_some h
            refine kcX10_coverTold fX10_statementTold_90 (hr0).1 rfl (q_X10_coverTold (hr0) e68) (by decide) ?_
            refine k9_goto fX10_statementTold_93 rfl ?_
            exact tj_X10_statementTold_J188 hr0   h
        · replace h := ite_f (c17) h
          refine t_l fX10_statementTold_70 rfl rfl rfl rfl ?_
          refine t_l fX10_statementTold_71 rfl rfl rfl rfl ?_
          obtain ⟨V69, v70, e71, h⟩ := bd_some h
          refine kcX10_dutyTold fX10_statementTold_72 (hr0).1 rfl (q_X10_dutyTold (hr0) e71) (by decide) ?_
          refine k9_goto fX10_statementTold_75 rfl ?_
          exact tj_X10_statementTold_J188 hr0   h
      · replace h := ite_f (c12) h
        refine t_l fX10_statementTold_51 rfl rfl rfl rfl ?_
        refine t_l fX10_statementTold_52 rfl rfl rfl rfl ?_
        obtain ⟨V72, v73, e74, h⟩ := bd_some h
        refine kcX10_taskTold fX10_statementTold_53 (hr0).1 rfl (q_X10_taskTold (hr0) e74) (by decide) ?_
        refine k9_goto fX10_statementTold_56 rfl ?_
        exact tj_X10_statementTold_J188 hr0   h
    · replace h := ite_f (c7) h
      refine t_l fX10_statementTold_32 rfl rfl rfl rfl ?_
      refine t_l fX10_statementTold_33 rfl rfl rfl rfl ?_
      obtain ⟨V75, v76, e77, h⟩ := bd_some h
      refine kcX10_personTold fX10_statementTold_34 (hr0).1 rfl (q_X10_personTold (hr0) e77) (by decide) ?_
      refine k9_goto fX10_statementTold_37 rfl ?_
      exact tj_X10_statementTold_J188 hr0   h
  · replace h := ite_t (Classical.not_not.mp c2) h
    refine t_l fX10_statementTold_14 rfl rfl rfl rfl ?_
    refine t_s fX10_statementTold_15 rfl rfl rfl ?_
    refine t_l fX10_statementTold_16 rfl rfl rfl rfl ?_
    obtain ⟨V78, v79, e80, h⟩ := bd_some h
    refine kcX10_fail fX10_statementTold_17 (hr0).1 rfl (q_X10_fail (hr0) e80) (by decide) ?_
    refine t_ret fX10_statementTold_20 rX10_statementTold ?_
    exact qf_v h

theorem tb_X10_stands_2 {X : mX} {n z : Nat} {G : mG} {r0 : Nat} (hr0 : is10 G r0) {x1 : Int} {j2 : Option Value} {V V' : mV} {q : Nat × Int} {Q : Nat → Nat → mG → mV → Option Value → Prop} (h0 : q.1 = 0 → ∀ j2 : Option Value, T X (0) 187 2 [some (.ref r0), some (.int (iI q.2)), j2] [] n z G V' Q) (h1 : q.1 = 1 → ∀ j2 : Option Value, T X (0) 187 27 [some (.ref r0), some (.int (iI q.2)), j2] [] n z G V' Q) (h : B_X10_stands_2 G r0 x1 V = some (V', q)) : T X (0) 187 2 [some (.ref r0), some (.int (iI x1)), j2] [] n z G V Q := by
  unfold B_X10_stands_2 at h
  refine t_l fX10_stands_2 rfl rfl rfl rfl ?_
  refine t_s fX10_stands_3 rfl rfl rfl ?_
  obtain ⟨g2, h⟩ := gd_some h
  refine k9_ic_ge fX10_stands_4 rfl g2 ⟨by decide, by decide⟩ (fun c1 => ?_) (fun c1 => ?_)
  · replace h := ite_t (c1) h
    cases h
    exact h1 rfl _
  · replace h := ite_f (c1) h
    refine t_l fX10_stands_7 rfl rfl rfl rfl ?_
    refine k9_gr fX10_stands_8 (hr0).1 kg_10_36 (s10_36r hr0) ?_
    refine t_s fX10_stands_11 rfl rfl rfl ?_
    refine t_l fX10_stands_12 rfl rfl rfl rfl ?_
    refine k9_iadd fX10_stands_13 ?_
    refine t_l fX10_stands_14 rfl rfl rfl rfl ?_
    refine k9_gr fX10_stands_15 (hr0).1 kg_10_36 (s10_36r hr0) ?_
    refine t_l fX10_stands_18 rfl rfl rfl rfl ?_
    obtain ⟨g3, h⟩ := gd_some h
    refine k9_ia fX10_stands_19 (s10_36s hr0) g3.1 g3.2.1 g3.2.2 ?_
    obtain ⟨g4, h⟩ := gd_some h
    refine k9_is fX10_stands_20 (s10_36s hr0) g4.1 g4.2.1 g4.2.2 ?_
    replace h := lt_some h
    replace h := lt_some h
    refine k9_iinc fX10_stands_21 rfl (Nat.le_of_ble_eq_true rfl) rfl ?_
    refine k9_goto fX10_stands_24 rfl ?_
    cases h
    exact h0 rfl _

theorem tl_X10_stands_2 {X : mX} {n z : Nat} {G : mG} {r0 : Nat} (hr0 : is10 G r0) {x1 : Int} {j2 : Option Value} {V V' : mV} {fu : Nat} {q : Nat × Int} {Q : Nat → Nat → mG → mV → Option Value → Prop} (k1 : q.1 = 1 → ∀ j2 : Option Value, T X (0) 187 27 [some (.ref r0), some (.int (iI q.2)), j2] [] n z G V' Q) (h : lp (fun (s : Int) V => B_X10_stands_2 G r0 s V) fu x1 V = some (V', q)) : T X (0) 187 2 [some (.ref r0), some (.int (iI x1)), j2] [] n z G V Q :=
  lp_go (P0 := fun s V => ∀ j2 : Option Value, T X (0) 187 2 [some (.ref r0), some (.int (iI s)), j2] [] n z G V Q) (PE := fun t s V => (t = 1 → ∀ j2 : Option Value, T X (0) 187 27 [some (.ref r0), some (.int (iI s)), j2] [] n z G V Q)) (fun s V V' q hb h0 h1 => fun _ => tb_X10_stands_2 hr0  h0 (fun e => (h1 (by omega)) e) hb) fu x1 V V' q h k1 _

theorem tb_X10_stands_29 {X : mX} {n z : Nat} {G : mG} {r0 : Nat} (hr0 : is10 G r0) {x1 : Int} {j2 : Option Value} {V V' : mV} {q : Nat × Int} {Q : Nat → Nat → mG → mV → Option Value → Prop} (h0 : q.1 = 0 → ∀ j2 : Option Value, T X (0) 187 29 [some (.ref r0), some (.int (iI q.2)), j2] [] n z G V' Q) (h1 : q.1 = 1 → ∀ j2 : Option Value, T X (0) 187 71 [some (.ref r0), some (.int (iI q.2)), j2] [] n z G V' Q) (h : B_X10_stands_29 G r0 x1 V = some (V', q)) : T X (0) 187 29 [some (.ref r0), some (.int (iI x1)), j2] [] n z G V Q := by
  unfold B_X10_stands_29 at h
  refine t_l fX10_stands_29 rfl rfl rfl rfl ?_
  refine t_s fX10_stands_30 rfl rfl rfl ?_
  obtain ⟨g12, h⟩ := gd_some h
  refine k9_ic_ge fX10_stands_32 rfl g12 ⟨by decide, by decide⟩ (fun c11 => ?_) (fun c11 => ?_)
  · replace h := ite_t (c11) h
    cases h
    exact h1 rfl _
  · replace h := ite_f (c11) h
    refine t_l fX10_stands_35 rfl rfl rfl rfl ?_
    refine k9_gr fX10_stands_36 (hr0).1 kg_10_37 (s10_37r hr0) ?_
    refine t_s fX10_stands_39 rfl rfl rfl ?_
    refine t_l fX10_stands_41 rfl rfl rfl rfl ?_
    refine k9_iadd fX10_stands_42 ?_
    refine t_l fX10_stands_43 rfl rfl rfl rfl ?_
    refine k9_gr fX10_stands_44 (hr0).1 kg_10_37 (s10_37r hr0) ?_
    refine t_l fX10_stands_47 rfl rfl rfl rfl ?_
    obtain ⟨g13, h⟩ := gd_some h
    refine k9_la fX10_stands_48 (s10_37s hr0) g13.1 g13.2.1 g13.2.2 ?_
    obtain ⟨g14, h⟩ := gd_some h
    refine k9_ls fX10_stands_49 (s10_37s hr0) g14.1 g14.2.1 g14.2.2 ?_
    replace h := lt_some h
    refine t_l fX10_stands_50 rfl rfl rfl rfl ?_
    refine k9_gr fX10_stands_51 (hr0).1 kg_10_38 (s10_38r hr0) ?_
    refine t_s fX10_stands_54 rfl rfl rfl ?_
    refine t_l fX10_stands_56 rfl rfl rfl rfl ?_
    refine k9_iadd fX10_stands_57 ?_
    refine t_l fX10_stands_58 rfl rfl rfl rfl ?_
    refine k9_gr fX10_stands_59 (hr0).1 kg_10_38 (s10_38r hr0) ?_
    refine t_l fX10_stands_62 rfl rfl rfl rfl ?_
    refine k9_ia fX10_stands_63 (s10_38s hr0) g13.1 g13.2.1 g13.2.2 ?_
    refine k9_is fX10_stands_64 (s10_38s hr0) g14.1 g14.2.1 g14.2.2 ?_
    replace h := lt_some h
    replace h := lt_some h
    refine k9_iinc fX10_stands_65 rfl (Nat.le_of_ble_eq_true rfl) rfl ?_
    refine k9_goto fX10_stands_68 rfl ?_
    cases h
    exact h0 rfl _

theorem tl_X10_stands_29 {X : mX} {n z : Nat} {G : mG} {r0 : Nat} (hr0 : is10 G r0) {x1 : Int} {j2 : Option Value} {V V' : mV} {fu : Nat} {q : Nat × Int} {Q : Nat → Nat → mG → mV → Option Value → Prop} (k1 : q.1 = 1 → ∀ j2 : Option Value, T X (0) 187 71 [some (.ref r0), some (.int (iI q.2)), j2] [] n z G V' Q) (h : lp (fun (s : Int) V => B_X10_stands_29 G r0 s V) fu x1 V = some (V', q)) : T X (0) 187 29 [some (.ref r0), some (.int (iI x1)), j2] [] n z G V Q :=
  lp_go (P0 := fun s V => ∀ j2 : Option Value, T X (0) 187 29 [some (.ref r0), some (.int (iI s)), j2] [] n z G V Q) (PE := fun t s V => (t = 1 → ∀ j2 : Option Value, T X (0) 187 71 [some (.ref r0), some (.int (iI s)), j2] [] n z G V Q)) (fun s V V' q hb h0 h1 => fun _ => tb_X10_stands_29 hr0  h0 (fun e => (h1 (by omega)) e) hb) fu x1 V V' q h k1 _

theorem tb_X10_stands_73 {X : mX} {n z : Nat} {G : mG} {r0 : Nat} (hr0 : is10 G r0) {x1 : Int} {j2 : Option Value} {V V' : mV} {q : Nat × Int} {Q : Nat → Nat → mG → mV → Option Value → Prop} (h0 : q.1 = 0 → ∀ j2 : Option Value, T X (0) 187 73 [some (.ref r0), some (.int (iI q.2)), j2] [] n z G V' Q) (h1 : q.1 = 1 → ∀ j2 : Option Value, T X (0) 187 100 [some (.ref r0), some (.int (iI q.2)), j2] [] n z G V' Q) (h : B_X10_stands_73 G r0 x1 V = some (V', q)) : T X (0) 187 73 [some (.ref r0), some (.int (iI x1)), j2] [] n z G V Q := by
  unfold B_X10_stands_73 at h
  refine t_l fX10_stands_73 rfl rfl rfl rfl ?_
  refine t_s fX10_stands_74 rfl rfl rfl ?_
  obtain ⟨g23, h⟩ := gd_some h
  refine k9_ic_ge fX10_stands_76 rfl g23 ⟨by decide, by decide⟩ (fun c22 => ?_) (fun c22 => ?_)
  · replace h := ite_t (c22) h
    cases h
    exact h1 rfl _
  · replace h := ite_f (c22) h
    refine t_l fX10_stands_79 rfl rfl rfl rfl ?_
    refine k9_gr fX10_stands_80 (hr0).1 kg_10_39 (s10_39r hr0) ?_
    refine t_s fX10_stands_83 rfl rfl rfl ?_
    refine t_l fX10_stands_85 rfl rfl rfl rfl ?_
    refine k9_iadd fX10_stands_86 ?_
    refine t_l fX10_stands_87 rfl rfl rfl rfl ?_
    refine k9_gr fX10_stands_88 (hr0).1 kg_10_39 (s10_39r hr0) ?_
    refine t_l fX10_stands_91 rfl rfl rfl rfl ?_
    obtain ⟨g24, h⟩ := gd_some h
    refine k9_ia fX10_stands_92 (s10_39s hr0) g24.1 g24.2.1 g24.2.2 ?_
    obtain ⟨g25, h⟩ := gd_some h
    refine k9_is fX10_stands_93 (s10_39s hr0) g25.1 g25.2.1 g25.2.2 ?_
    replace h := lt_some h
    replace h := lt_some h
    refine k9_iinc fX10_stands_94 rfl (Nat.le_of_ble_eq_true rfl) rfl ?_
    refine k9_goto fX10_stands_97 rfl ?_
    cases h
    exact h0 rfl _

theorem tl_X10_stands_73 {X : mX} {n z : Nat} {G : mG} {r0 : Nat} (hr0 : is10 G r0) {x1 : Int} {j2 : Option Value} {V V' : mV} {fu : Nat} {q : Nat × Int} {Q : Nat → Nat → mG → mV → Option Value → Prop} (k1 : q.1 = 1 → ∀ j2 : Option Value, T X (0) 187 100 [some (.ref r0), some (.int (iI q.2)), j2] [] n z G V' Q) (h : lp (fun (s : Int) V => B_X10_stands_73 G r0 s V) fu x1 V = some (V', q)) : T X (0) 187 73 [some (.ref r0), some (.int (iI x1)), j2] [] n z G V Q :=
  lp_go (P0 := fun s V => ∀ j2 : Option Value, T X (0) 187 73 [some (.ref r0), some (.int (iI s)), j2] [] n z G V Q) (PE := fun t s V => (t = 1 → ∀ j2 : Option Value, T X (0) 187 100 [some (.ref r0), some (.int (iI s)), j2] [] n z G V Q)) (fun s V V' q hb h0 h1 => fun _ => tb_X10_stands_73 hr0  h0 (fun e => (h1 (by omega)) e) hb) fu x1 V V' q h k1 _

theorem tb_X10_stands_102 {X : mX} {n z : Nat} {G : mG} {r0 : Nat} (hr0 : is10 G r0) {x1 : Int} {j2 : Option Value} {V V' : mV} {q : Nat × Int} {Q : Nat → Nat → mG → mV → Option Value → Prop} (h0 : q.1 = 0 → ∀ j2 : Option Value, T X (0) 187 102 [some (.ref r0), some (.int (iI q.2)), j2] [] n z G V' Q) (h1 : q.1 = 1 → ∀ j2 : Option Value, T X (0) 187 144 [some (.ref r0), some (.int (iI q.2)), j2] [] n z G V' Q) (h : B_X10_stands_102 G r0 x1 V = some (V', q)) : T X (0) 187 102 [some (.ref r0), some (.int (iI x1)), j2] [] n z G V Q := by
  unfold B_X10_stands_102 at h
  refine t_l fX10_stands_102 rfl rfl rfl rfl ?_
  refine t_s fX10_stands_103 rfl rfl rfl ?_
  obtain ⟨g33, h⟩ := gd_some h
  refine k9_ic_ge fX10_stands_105 rfl g33 ⟨by decide, by decide⟩ (fun c32 => ?_) (fun c32 => ?_)
  · replace h := ite_t (c32) h
    cases h
    exact h1 rfl _
  · replace h := ite_f (c32) h
    refine t_l fX10_stands_108 rfl rfl rfl rfl ?_
    refine k9_gr fX10_stands_109 (hr0).1 kg_10_40 (s10_40r hr0) ?_
    refine t_s fX10_stands_112 rfl rfl rfl ?_
    refine t_l fX10_stands_114 rfl rfl rfl rfl ?_
    refine k9_iadd fX10_stands_115 ?_
    refine t_l fX10_stands_116 rfl rfl rfl rfl ?_
    refine k9_gr fX10_stands_117 (hr0).1 kg_10_40 (s10_40r hr0) ?_
    refine t_l fX10_stands_120 rfl rfl rfl rfl ?_
    obtain ⟨g34, h⟩ := gd_some h
    refine k9_ia fX10_stands_121 (s10_40s hr0) g34.1 g34.2.1 g34.2.2 ?_
    obtain ⟨g35, h⟩ := gd_some h
    refine k9_is fX10_stands_122 (s10_40s hr0) g35.1 g35.2.1 g35.2.2 ?_
    replace h := lt_some h
    refine t_l fX10_stands_123 rfl rfl rfl rfl ?_
    refine k9_gr fX10_stands_124 (hr0).1 kg_10_41 (s10_41r hr0) ?_
    refine t_s fX10_stands_127 rfl rfl rfl ?_
    refine t_l fX10_stands_129 rfl rfl rfl rfl ?_
    refine k9_iadd fX10_stands_130 ?_
    refine t_l fX10_stands_131 rfl rfl rfl rfl ?_
    refine k9_gr fX10_stands_132 (hr0).1 kg_10_41 (s10_41r hr0) ?_
    refine t_l fX10_stands_135 rfl rfl rfl rfl ?_
    refine k9_ia fX10_stands_136 (s10_41s hr0) g34.1 g34.2.1 g34.2.2 ?_
    refine k9_is fX10_stands_137 (s10_41s hr0) g35.1 g35.2.1 g35.2.2 ?_
    replace h := lt_some h
    replace h := lt_some h
    refine k9_iinc fX10_stands_138 rfl (Nat.le_of_ble_eq_true rfl) rfl ?_
    refine k9_goto fX10_stands_141 rfl ?_
    cases h
    exact h0 rfl _

theorem tl_X10_stands_102 {X : mX} {n z : Nat} {G : mG} {r0 : Nat} (hr0 : is10 G r0) {x1 : Int} {j2 : Option Value} {V V' : mV} {fu : Nat} {q : Nat × Int} {Q : Nat → Nat → mG → mV → Option Value → Prop} (k1 : q.1 = 1 → ∀ j2 : Option Value, T X (0) 187 144 [some (.ref r0), some (.int (iI q.2)), j2] [] n z G V' Q) (h : lp (fun (s : Int) V => B_X10_stands_102 G r0 s V) fu x1 V = some (V', q)) : T X (0) 187 102 [some (.ref r0), some (.int (iI x1)), j2] [] n z G V Q :=
  lp_go (P0 := fun s V => ∀ j2 : Option Value, T X (0) 187 102 [some (.ref r0), some (.int (iI s)), j2] [] n z G V Q) (PE := fun t s V => (t = 1 → ∀ j2 : Option Value, T X (0) 187 144 [some (.ref r0), some (.int (iI s)), j2] [] n z G V Q)) (fun s V V' q hb h0 h1 => fun _ => tb_X10_stands_102 hr0  h0 (fun e => (h1 (by omega)) e) hb) fu x1 V V' q h k1 _

theorem tb_X10_stands_146 {X : mX} {n z : Nat} {G : mG} {r0 : Nat} (hr0 : is10 G r0) {x1 : Int} {j2 : Option Value} {V V' : mV} {q : Nat × Int} {Q : Nat → Nat → mG → mV → Option Value → Prop} (h0 : q.1 = 0 → ∀ j2 : Option Value, T X (0) 187 146 [some (.ref r0), some (.int (iI q.2)), j2] [] n z G V' Q) (h1 : q.1 = 1 → ∀ j2 : Option Value, T X (0) 187 173 [some (.ref r0), some (.int (iI q.2)), j2] [] n z G V' Q) (h : B_X10_stands_146 G r0 x1 V = some (V', q)) : T X (0) 187 146 [some (.ref r0), some (.int (iI x1)), j2] [] n z G V Q := by
  unfold B_X10_stands_146 at h
  refine t_l fX10_stands_146 rfl rfl rfl rfl ?_
  refine t_s fX10_stands_147 rfl rfl rfl ?_
  obtain ⟨g44, h⟩ := gd_some h
  refine k9_ic_ge fX10_stands_149 rfl g44 ⟨by decide, by decide⟩ (fun c43 => ?_) (fun c43 => ?_)
  · replace h := ite_t (c43) h
    cases h
    exact h1 rfl _
  · replace h := ite_f (c43) h
    refine t_l fX10_stands_152 rfl rfl rfl rfl ?_
    refine k9_gr fX10_stands_153 (hr0).1 kg_10_42 (s10_42r hr0) ?_
    refine t_s fX10_stands_156 rfl rfl rfl ?_
    refine t_l fX10_stands_158 rfl rfl rfl rfl ?_
    refine k9_iadd fX10_stands_159 ?_
    refine t_l fX10_stands_160 rfl rfl rfl rfl ?_
    refine k9_gr fX10_stands_161 (hr0).1 kg_10_42 (s10_42r hr0) ?_
    refine t_l fX10_stands_164 rfl rfl rfl rfl ?_
    obtain ⟨g45, h⟩ := gd_some h
    refine k9_ia fX10_stands_165 (s10_42s hr0) g45.1 g45.2.1 g45.2.2 ?_
    obtain ⟨g46, h⟩ := gd_some h
    refine k9_is fX10_stands_166 (s10_42s hr0) g46.1 g46.2.1 g46.2.2 ?_
    replace h := lt_some h
    replace h := lt_some h
    refine k9_iinc fX10_stands_167 rfl (Nat.le_of_ble_eq_true rfl) rfl ?_
    refine k9_goto fX10_stands_170 rfl ?_
    cases h
    exact h0 rfl _

theorem tl_X10_stands_146 {X : mX} {n z : Nat} {G : mG} {r0 : Nat} (hr0 : is10 G r0) {x1 : Int} {j2 : Option Value} {V V' : mV} {fu : Nat} {q : Nat × Int} {Q : Nat → Nat → mG → mV → Option Value → Prop} (k1 : q.1 = 1 → ∀ j2 : Option Value, T X (0) 187 173 [some (.ref r0), some (.int (iI q.2)), j2] [] n z G V' Q) (h : lp (fun (s : Int) V => B_X10_stands_146 G r0 s V) fu x1 V = some (V', q)) : T X (0) 187 146 [some (.ref r0), some (.int (iI x1)), j2] [] n z G V Q :=
  lp_go (P0 := fun s V => ∀ j2 : Option Value, T X (0) 187 146 [some (.ref r0), some (.int (iI s)), j2] [] n z G V Q) (PE := fun t s V => (t = 1 → ∀ j2 : Option Value, T X (0) 187 173 [some (.ref r0), some (.int (iI s)), j2] [] n z G V Q)) (fun s V V' q hb h0 h1 => fun _ => tb_X10_stands_146 hr0  h0 (fun e => (h1 (by omega)) e) hb) fu x1 V V' q h k1 _

theorem tb_X10_stands_175 {X : mX} {n z : Nat} {G : mG} {r0 : Nat} (hr0 : is10 G r0) {x1 : Int} {j2 : Option Value} {V V' : mV} {q : Nat × Int} {Q : Nat → Nat → mG → mV → Option Value → Prop} (h0 : q.1 = 0 → ∀ j2 : Option Value, T X (0) 187 175 [some (.ref r0), some (.int (iI q.2)), j2] [] n z G V' Q) (h1 : q.1 = 1 → ∀ j2 : Option Value, T X (0) 187 214 [some (.ref r0), some (.int (iI q.2)), j2] [] n z G V' Q) (h : B_X10_stands_175 G r0 x1 V = some (V', q)) : T X (0) 187 175 [some (.ref r0), some (.int (iI x1)), j2] [] n z G V Q := by
  unfold B_X10_stands_175 at h
  refine t_l fX10_stands_175 rfl rfl rfl rfl ?_
  refine t_s fX10_stands_176 rfl rfl rfl ?_
  obtain ⟨g54, h⟩ := gd_some h
  refine k9_ic_ge fX10_stands_177 rfl g54 ⟨by decide, by decide⟩ (fun c53 => ?_) (fun c53 => ?_)
  · replace h := ite_t (c53) h
    cases h
    exact h1 rfl _
  · replace h := ite_f (c53) h
    refine t_l fX10_stands_180 rfl rfl rfl rfl ?_
    refine k9_gr fX10_stands_181 (hr0).1 kg_10_43 (s10_43r hr0) ?_
    refine t_s fX10_stands_184 rfl rfl rfl ?_
    refine t_l fX10_stands_185 rfl rfl rfl rfl ?_
    refine k9_iadd fX10_stands_186 ?_
    refine t_l fX10_stands_187 rfl rfl rfl rfl ?_
    refine k9_gr fX10_stands_188 (hr0).1 kg_10_43 (s10_43r hr0) ?_
    refine t_l fX10_stands_191 rfl rfl rfl rfl ?_
    obtain ⟨g55, h⟩ := gd_some h
    refine k9_ia fX10_stands_192 (s10_43s hr0) g55.1 g55.2.1 g55.2.2 ?_
    obtain ⟨g56, h⟩ := gd_some h
    refine k9_is fX10_stands_193 (s10_43s hr0) g56.1 g56.2.1 g56.2.2 ?_
    replace h := lt_some h
    refine t_l fX10_stands_194 rfl rfl rfl rfl ?_
    refine k9_gr fX10_stands_195 (hr0).1 kg_10_44 (s10_44r hr0) ?_
    refine t_s fX10_stands_198 rfl rfl rfl ?_
    refine t_l fX10_stands_199 rfl rfl rfl rfl ?_
    refine k9_iadd fX10_stands_200 ?_
    refine t_l fX10_stands_201 rfl rfl rfl rfl ?_
    refine k9_gr fX10_stands_202 (hr0).1 kg_10_44 (s10_44r hr0) ?_
    refine t_l fX10_stands_205 rfl rfl rfl rfl ?_
    refine k9_ia fX10_stands_206 (s10_44s hr0) g55.1 g55.2.1 g55.2.2 ?_
    refine k9_is fX10_stands_207 (s10_44s hr0) g56.1 g56.2.1 g56.2.2 ?_
    replace h := lt_some h
    replace h := lt_some h
    refine k9_iinc fX10_stands_208 rfl (Nat.le_of_ble_eq_true rfl) rfl ?_
    refine k9_goto fX10_stands_211 rfl ?_
    cases h
    exact h0 rfl _

theorem tl_X10_stands_175 {X : mX} {n z : Nat} {G : mG} {r0 : Nat} (hr0 : is10 G r0) {x1 : Int} {j2 : Option Value} {V V' : mV} {fu : Nat} {q : Nat × Int} {Q : Nat → Nat → mG → mV → Option Value → Prop} (k1 : q.1 = 1 → ∀ j2 : Option Value, T X (0) 187 214 [some (.ref r0), some (.int (iI q.2)), j2] [] n z G V' Q) (h : lp (fun (s : Int) V => B_X10_stands_175 G r0 s V) fu x1 V = some (V', q)) : T X (0) 187 175 [some (.ref r0), some (.int (iI x1)), j2] [] n z G V Q :=
  lp_go (P0 := fun s V => ∀ j2 : Option Value, T X (0) 187 175 [some (.ref r0), some (.int (iI s)), j2] [] n z G V Q) (PE := fun t s V => (t = 1 → ∀ j2 : Option Value, T X (0) 187 214 [some (.ref r0), some (.int (iI s)), j2] [] n z G V Q)) (fun s V V' q hb h0 h1 => fun _ => tb_X10_stands_175 hr0  h0 (fun e => (h1 (by omega)) e) hb) fu x1 V V' q h k1 _

theorem tb_X10_stands_216 {X : mX} {n z : Nat} {G : mG} {r0 : Nat} (hr0 : is10 G r0) {x1 : Int} {j2 : Option Value} {V V' : mV} {q : Nat × Int} {Q : Nat → Nat → mG → mV → Option Value → Prop} (h0 : q.1 = 0 → ∀ j2 : Option Value, T X (0) 187 216 [some (.ref r0), some (.int (iI q.2)), j2] [] n z G V' Q) (h1 : q.1 = 1 → ∀ j2 : Option Value, T X (0) 187 246 [some (.ref r0), some (.int (iI q.2)), j2] [] n z G V' Q) (h : B_X10_stands_216 G r0 x1 V = some (V', q)) : T X (0) 187 216 [some (.ref r0), some (.int (iI x1)), j2] [] n z G V Q := by
  unfold B_X10_stands_216 at h
  refine t_l fX10_stands_216 rfl rfl rfl rfl ?_
  refine t_l fX10_stands_217 rfl rfl rfl rfl ?_
  refine k9_gi fX10_stands_218 (hr0).1 kg_10_46 ?_
  obtain ⟨g65, h⟩ := gd_some h
  obtain ⟨g66, h⟩ := gd_some h
  refine k9_ic_ge fX10_stands_221 rfl g65 g66 (fun c64 => ?_) (fun c64 => ?_)
  · replace h := ite_t (c64) h
    cases h
    exact h1 rfl _
  · replace h := ite_f (c64) h
    refine t_l fX10_stands_224 rfl rfl rfl rfl ?_
    refine k9_gr fX10_stands_225 (hr0).1 kg_10_45 (s10_45r hr0) ?_
    refine t_s fX10_stands_228 rfl rfl rfl ?_
    refine t_l fX10_stands_231 rfl rfl rfl rfl ?_
    refine k9_iadd fX10_stands_232 ?_
    refine t_l fX10_stands_233 rfl rfl rfl rfl ?_
    refine k9_gr fX10_stands_234 (hr0).1 kg_10_45 (s10_45r hr0) ?_
    refine t_l fX10_stands_237 rfl rfl rfl rfl ?_
    obtain ⟨g67, h⟩ := gd_some h
    refine k9_ia fX10_stands_238 (s10_45s hr0) g67.1 g67.2.1 g67.2.2 ?_
    obtain ⟨g68, h⟩ := gd_some h
    refine k9_is fX10_stands_239 (s10_45s hr0) g68.1 g68.2.1 g68.2.2 ?_
    replace h := lt_some h
    replace h := lt_some h
    refine k9_iinc fX10_stands_240 rfl (Nat.le_of_ble_eq_true rfl) rfl ?_
    refine k9_goto fX10_stands_243 rfl ?_
    cases h
    exact h0 rfl _

theorem tl_X10_stands_216 {X : mX} {n z : Nat} {G : mG} {r0 : Nat} (hr0 : is10 G r0) {x1 : Int} {j2 : Option Value} {V V' : mV} {fu : Nat} {q : Nat × Int} {Q : Nat → Nat → mG → mV → Option Value → Prop} (k1 : q.1 = 1 → ∀ j2 : Option Value, T X (0) 187 246 [some (.ref r0), some (.int (iI q.2)), j2] [] n z G V' Q) (h : lp (fun (s : Int) V => B_X10_stands_216 G r0 s V) fu x1 V = some (V', q)) : T X (0) 187 216 [some (.ref r0), some (.int (iI x1)), j2] [] n z G V Q :=
  lp_go (P0 := fun s V => ∀ j2 : Option Value, T X (0) 187 216 [some (.ref r0), some (.int (iI s)), j2] [] n z G V Q) (PE := fun t s V => (t = 1 → ∀ j2 : Option Value, T X (0) 187 246 [some (.ref r0), some (.int (iI s)), j2] [] n z G V Q)) (fun s V V' q hb h0 h1 => fun _ => tb_X10_stands_216 hr0  h0 (fun e => (h1 (by omega)) e) hb) fu x1 V V' q h k1 _

theorem tb_X10_stands_248 {X : mX} {n z : Nat} {G : mG} {r0 : Nat} (hr0 : is10 G r0) {x1 : Int} {j2 : Option Value} {V V' : mV} {q : Nat × Int} {Q : Nat → Nat → mG → mV → Option Value → Prop} (h0 : q.1 = 0 → ∀ j2 : Option Value, T X (0) 187 248 [some (.ref r0), some (.int (iI q.2)), j2] [] n z G V' Q) (h1 : q.1 = 1 → ∀ j2 : Option Value, T X (0) 187 268 [some (.ref r0), some (.int (iI q.2)), j2] [] n z G V' Q) (h : B_X10_stands_248 G r0 x1 V = some (V', q)) : T X (0) 187 248 [some (.ref r0), some (.int (iI x1)), j2] [] n z G V Q := by
  unfold B_X10_stands_248 at h
  refine t_l fX10_stands_248 rfl rfl rfl rfl ?_
  refine t_s fX10_stands_249 rfl rfl rfl ?_
  obtain ⟨g76, h⟩ := gd_some h
  refine k9_ic_ge fX10_stands_252 rfl g76 ⟨by decide, by decide⟩ (fun c75 => ?_) (fun c75 => ?_)
  · replace h := ite_t (c75) h
    cases h
    exact h1 rfl _
  · replace h := ite_f (c75) h
    refine t_l fX10_stands_255 rfl rfl rfl rfl ?_
    refine k9_gr fX10_stands_256 (hr0).1 kg_10_49 (s10_49r hr0) ?_
    refine t_l fX10_stands_259 rfl rfl rfl rfl ?_
    refine t_s fX10_stands_260 rfl rfl rfl ?_
    obtain ⟨g77, h⟩ := gd_some h
    refine k9_is fX10_stands_261 (s10_49s hr0) g77.1 g77.2.1 g77.2.2 ?_
    replace h := lt_some h
    replace h := lt_some h
    refine k9_iinc fX10_stands_262 rfl (Nat.le_of_ble_eq_true rfl) rfl ?_
    refine k9_goto fX10_stands_265 rfl ?_
    cases h
    exact h0 rfl _

theorem tl_X10_stands_248 {X : mX} {n z : Nat} {G : mG} {r0 : Nat} (hr0 : is10 G r0) {x1 : Int} {j2 : Option Value} {V V' : mV} {fu : Nat} {q : Nat × Int} {Q : Nat → Nat → mG → mV → Option Value → Prop} (k1 : q.1 = 1 → ∀ j2 : Option Value, T X (0) 187 268 [some (.ref r0), some (.int (iI q.2)), j2] [] n z G V' Q) (h : lp (fun (s : Int) V => B_X10_stands_248 G r0 s V) fu x1 V = some (V', q)) : T X (0) 187 248 [some (.ref r0), some (.int (iI x1)), j2] [] n z G V Q :=
  lp_go (P0 := fun s V => ∀ j2 : Option Value, T X (0) 187 248 [some (.ref r0), some (.int (iI s)), j2] [] n z G V Q) (PE := fun t s V => (t = 1 → ∀ j2 : Option Value, T X (0) 187 268 [some (.ref r0), some (.int (iI s)), j2] [] n z G V Q)) (fun s V V' q hb h0 h1 => fun _ => tb_X10_stands_248 hr0  h0 (fun e => (h1 (by omega)) e) hb) fu x1 V V' q h k1 _

theorem tb_X10_stands_306 {X : mX} {n z : Nat} {G : mG} {r0 : Nat} (hr0 : is10 G r0) {x1 x2 : Int} {V V' : mV} {q : Nat × Int} {Q : Nat → Nat → mG → mV → Option Value → Prop} (h0 : q.1 = 0 → T X (0) 187 306 [some (.ref r0), some (.int (iI x1)), some (.int (iI q.2))] [] n z G V' Q) (h1 : q.1 = 1 → T X (0) 187 346 [some (.ref r0), some (.int (iI x1)), some (.int (iI q.2))] [] n z G V' Q) (h : B_X10_stands_306 G r0 x1 x2 V = some (V', q)) : T X (0) 187 306 [some (.ref r0), some (.int (iI x1)), some (.int (iI x2))] [] n z G V Q := by
  unfold B_X10_stands_306 at h
  refine t_l fX10_stands_306 rfl rfl rfl rfl ?_
  refine t_l fX10_stands_307 rfl rfl rfl rfl ?_
  refine k9_gr fX10_stands_308 (hr0).1 kg_10_36 (s10_36r hr0) ?_
  refine t_s fX10_stands_311 rfl rfl rfl ?_
  refine k9_ia fX10_stands_312 (s10_36s hr0) (by decide) (by decide) (by decide) ?_
  obtain ⟨g92, h⟩ := gd_some h
  obtain ⟨g93, h⟩ := gd_some h
  refine k9_ic_ge fX10_stands_313 rfl g92 g93 (fun c91 => ?_) (fun c91 => ?_)
  · replace h := ite_t (c91) h
    cases h
    exact h1 rfl
  · replace h := ite_f (c91) h
    refine t_l fX10_stands_316 rfl rfl rfl rfl ?_
    refine k9_gr fX10_stands_317 (hr0).1 kg_10_49 (s10_49r hr0) ?_
    refine t_s fX10_stands_320 rfl rfl rfl ?_
    refine t_s fX10_stands_321 rfl rfl rfl ?_
    refine t_l fX10_stands_323 rfl rfl rfl rfl ?_
    refine k9_imul fX10_stands_324 ?_
    refine k9_iadd fX10_stands_325 ?_
    refine t_l fX10_stands_326 rfl rfl rfl rfl ?_
    refine k9_iadd fX10_stands_327 ?_
    refine t_l fX10_stands_328 rfl rfl rfl rfl ?_
    refine k9_gr fX10_stands_329 (hr0).1 kg_10_42 (s10_42r hr0) ?_
    refine t_s fX10_stands_332 rfl rfl rfl ?_
    refine t_l fX10_stands_334 rfl rfl rfl rfl ?_
    refine k9_imul fX10_stands_335 ?_
    refine t_l fX10_stands_336 rfl rfl rfl rfl ?_
    refine k9_iadd fX10_stands_337 ?_
    obtain ⟨g94, h⟩ := gd_some h
    refine k9_ia fX10_stands_338 (s10_42s hr0) g94.1 g94.2.1 g94.2.2 ?_
    obtain ⟨g95, h⟩ := gd_some h
    refine k9_is fX10_stands_339 (s10_49s hr0) g95.1 g95.2.1 g95.2.2 ?_
    replace h := lt_some h
    replace h := lt_some h
    refine k9_iinc fX10_stands_340 rfl (Nat.le_of_ble_eq_true rfl) rfl ?_
    refine k9_goto fX10_stands_343 rfl ?_
    cases h
    exact h0 rfl

theorem tl_X10_stands_306 {X : mX} {n z : Nat} {G : mG} {r0 : Nat} (hr0 : is10 G r0) {x1 x2 : Int} {V V' : mV} {fu : Nat} {q : Nat × Int} {Q : Nat → Nat → mG → mV → Option Value → Prop} (k1 : q.1 = 1 → T X (0) 187 346 [some (.ref r0), some (.int (iI x1)), some (.int (iI q.2))] [] n z G V' Q) (h : lp (fun (s : Int) V => B_X10_stands_306 G r0 x1 s V) fu x2 V = some (V', q)) : T X (0) 187 306 [some (.ref r0), some (.int (iI x1)), some (.int (iI x2))] [] n z G V Q :=
  lp_go (P0 := fun s V => T X (0) 187 306 [some (.ref r0), some (.int (iI x1)), some (.int (iI s))] [] n z G V Q) (PE := fun t s V => (t = 1 → T X (0) 187 346 [some (.ref r0), some (.int (iI x1)), some (.int (iI s))] [] n z G V Q)) (fun s V V' q hb h0 h1 => tb_X10_stands_306 hr0  h0 (fun e => (h1 (by omega)) e) hb) fu x2 V V' q h k1

theorem tb_X10_stands_270 {X : mX} {n z : Nat} {G : mG} {r0 : Nat} (hr0 : is10 G r0) {x1 : Int} {j2 : Option Value} {V V' : mV} {q : Nat × Int} {Q : Nat → Nat → mG → mV → Option Value → Prop} (h0 : q.1 = 0 → ∀ j2 : Option Value, T X (0) 187 270 [some (.ref r0), some (.int (iI q.2)), j2] [] n z G V' Q) (h1 : q.1 = 1 → ∀ j2 : Option Value, T X (0) 187 352 [some (.ref r0), some (.int (iI q.2)), j2] [] n z G V' Q) (h : B_X10_stands_270 G r0 x1 V = some (V', q)) : T X (0) 187 270 [some (.ref r0), some (.int (iI x1)), j2] [] n z G V Q := by
  unfold B_X10_stands_270 at h
  refine t_l fX10_stands_270 rfl rfl rfl rfl ?_
  refine t_l fX10_stands_271 rfl rfl rfl rfl ?_
  refine k9_gr fX10_stands_272 (hr0).1 kg_10_36 (s10_36r hr0) ?_
  refine t_s fX10_stands_275 rfl rfl rfl ?_
  refine k9_ia fX10_stands_276 (s10_36s hr0) (by decide) (by decide) (by decide) ?_
  obtain ⟨g85, h⟩ := gd_some h
  obtain ⟨g86, h⟩ := gd_some h
  refine k9_ic_ge fX10_stands_277 rfl g85 g86 (fun c84 => ?_) (fun c84 => ?_)
  · replace h := ite_t (c84) h
    cases h
    exact h1 rfl _
  · replace h := ite_f (c84) h
    refine t_l fX10_stands_280 rfl rfl rfl rfl ?_
    refine k9_gr fX10_stands_281 (hr0).1 kg_10_49 (s10_49r hr0) ?_
    refine t_s fX10_stands_284 rfl rfl rfl ?_
    refine t_s fX10_stands_285 rfl rfl rfl ?_
    refine t_l fX10_stands_287 rfl rfl rfl rfl ?_
    refine k9_imul fX10_stands_288 ?_
    refine k9_iadd fX10_stands_289 ?_
    refine t_l fX10_stands_290 rfl rfl rfl rfl ?_
    obtain ⟨g87, h⟩ := gd_some h
    refine k9_is fX10_stands_291 (s10_49s hr0) g87.1 g87.2.1 g87.2.2 ?_
    replace h := lt_some h
    refine t_l fX10_stands_292 rfl rfl rfl rfl ?_
    refine k9_gr fX10_stands_293 (hr0).1 kg_10_49 (s10_49r hr0) ?_
    refine t_s fX10_stands_296 rfl rfl rfl ?_
    refine t_s fX10_stands_297 rfl rfl rfl ?_
    refine t_l fX10_stands_299 rfl rfl rfl rfl ?_
    refine k9_imul fX10_stands_300 ?_
    refine k9_iadd fX10_stands_301 ?_
    refine t_s fX10_stands_302 rfl rfl rfl ?_
    obtain ⟨g89, h⟩ := gd_some h
    refine k9_is fX10_stands_303 (s10_49s hr0) g89.1 g89.2.1 g89.2.2 ?_
    replace h := lt_some h
    refine t_s fX10_stands_304 rfl rfl rfl ?_
    refine t_l fX10_stands_305 rfl rfl rfl rfl ?_
    obtain ⟨V98, u99, e100, h⟩ := bd_some h
    refine tl_X10_stands_306 hr0  (fun e101 => ?_) e100
    replace h := lt_some h
    refine k9_iinc fX10_stands_346 rfl (Nat.le_of_ble_eq_true rfl) rfl ?_
    refine k9_goto fX10_stands_349 rfl ?_
    cases h
    exact h0 rfl _

theorem tl_X10_stands_270 {X : mX} {n z : Nat} {G : mG} {r0 : Nat} (hr0 : is10 G r0) {x1 : Int} {j2 : Option Value} {V V' : mV} {fu : Nat} {q : Nat × Int} {Q : Nat → Nat → mG → mV → Option Value → Prop} (k1 : q.1 = 1 → ∀ j2 : Option Value, T X (0) 187 352 [some (.ref r0), some (.int (iI q.2)), j2] [] n z G V' Q) (h : lp (fun (s : Int) V => B_X10_stands_270 G r0 s V) fu x1 V = some (V', q)) : T X (0) 187 270 [some (.ref r0), some (.int (iI x1)), j2] [] n z G V Q :=
  lp_go (P0 := fun s V => ∀ j2 : Option Value, T X (0) 187 270 [some (.ref r0), some (.int (iI s)), j2] [] n z G V Q) (PE := fun t s V => (t = 1 → ∀ j2 : Option Value, T X (0) 187 352 [some (.ref r0), some (.int (iI s)), j2] [] n z G V Q)) (fun s V V' q hb h0 h1 => fun _ => tb_X10_stands_270 hr0  h0 (fun e => (h1 (by omega)) e) hb) fu x1 V V' q h k1 _

theorem q_X10_stands {X : mX} {n z : Nat} {G : mG} {r0 : Nat} (hr0 : is10 G r0) {V V' : mV} {v : Int} (h : F_X10_stands G r0 V = some (V', v)) : Rn X (0) 187 [.ref r0] n z G V n z G V' none := by
  refine qv_toR (v := v) (L := [some (.ref r0), none, none]) rfl ?_
  unfold F_X10_stands at h
  refine t_s fX10_stands_0 rfl rfl rfl ?_
  refine t_l fX10_stands_1 rfl rfl rfl rfl ?_
  obtain ⟨V7, u8, e9, h⟩ := bd_some h
  refine tl_X10_stands_2 hr0  (fun e10 j2 => ?_) e9
  refine t_s fX10_stands_27 rfl rfl rfl ?_
  refine t_l fX10_stands_28 rfl rfl rfl rfl ?_
  obtain ⟨V18, u19, e20, h⟩ := bd_some h
  refine tl_X10_stands_29 hr0  (fun e21 j2 => ?_) e20
  refine t_s fX10_stands_71 rfl rfl rfl ?_
  refine t_l fX10_stands_72 rfl rfl rfl rfl ?_
  obtain ⟨V28, u29, e30, h⟩ := bd_some h
  refine tl_X10_stands_73 hr0  (fun e31 j2 => ?_) e30
  refine t_s fX10_stands_100 rfl rfl rfl ?_
  refine t_l fX10_stands_101 rfl rfl rfl rfl ?_
  obtain ⟨V39, u40, e41, h⟩ := bd_some h
  refine tl_X10_stands_102 hr0  (fun e42 j2 => ?_) e41
  refine t_s fX10_stands_144 rfl rfl rfl ?_
  refine t_l fX10_stands_145 rfl rfl rfl rfl ?_
  obtain ⟨V49, u50, e51, h⟩ := bd_some h
  refine tl_X10_stands_146 hr0  (fun e52 j2 => ?_) e51
  refine t_s fX10_stands_173 rfl rfl rfl ?_
  refine t_l fX10_stands_174 rfl rfl rfl rfl ?_
  obtain ⟨V60, u61, e62, h⟩ := bd_some h
  refine tl_X10_stands_175 hr0  (fun e63 j2 => ?_) e62
  refine t_s fX10_stands_214 rfl rfl rfl ?_
  refine t_l fX10_stands_215 rfl rfl rfl rfl ?_
  obtain ⟨V71, u72, e73, h⟩ := bd_some h
  refine tl_X10_stands_216 hr0  (fun e74 j2 => ?_) e73
  refine t_s fX10_stands_246 rfl rfl rfl ?_
  refine t_l fX10_stands_247 rfl rfl rfl rfl ?_
  obtain ⟨V80, u81, e82, h⟩ := bd_some h
  refine tl_X10_stands_248 hr0  (fun e83 j2 => ?_) e82
  refine t_s fX10_stands_268 rfl rfl rfl ?_
  refine t_l fX10_stands_269 rfl rfl rfl rfl ?_
  obtain ⟨V103, u104, e105, h⟩ := bd_some h
  refine tl_X10_stands_270 hr0  (fun e106 j2 => ?_) e105
  refine t_l fX10_stands_352 rfl rfl rfl rfl ?_
  refine t_s fX10_stands_353 rfl rfl rfl ?_
  refine k9_pi fX10_stands_354 (hr0).1 kp_10_69 ?_
  replace h := lt_some h
  refine t_l fX10_stands_357 rfl rfl rfl rfl ?_
  refine t_s fX10_stands_358 rfl rfl rfl ?_
  refine k9_pi fX10_stands_359 (hr0).1 kp_10_72 ?_
  replace h := lt_some h
  refine t_ret fX10_stands_362 rX10_stands ?_
  exact qf_v h


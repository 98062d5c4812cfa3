theorem rL_law (a : Int) (h : a = 0 ∨ a = 1) : a_ret 303 .ireturn [.int (iI a)] = some (some (.int (iI a))) := by rcases h with rfl | rfl <;> rfl
theorem tb_L_law_18 {L0 : Nat} {xs : Nat → Int32} {r1 r2 : Nat} {x3 : Int} {W W' : mW} {q : Nat × Int} {Q : Nat → Nat → mG → mV → Option Value → Prop} (h0 : q.1 = 0 → T (some (L0, xs)) (98) 303 18 [some (.retAddr 0), some (.ref r1), some (.ref r2), some (.int (iI q.2))] [] W'.1 W'.2.1 W'.2.2.1 W'.2.2.2 Q) (h1 : q.1 = 1 → ∀ j1 j2 : Option Value, T (some (L0, xs)) (98) 303 237 [some (.retAddr 0), j1, j2, some (.int (iI q.2))] [] W'.1 W'.2.1 W'.2.2.1 W'.2.2.2 Q) (h2 : q.1 = 2 → ∀ j1 j2 : Option Value, T (some (L0, xs)) (98) 303 260 [some (.retAddr 0), j1, j2, some (.int (iI q.2))] [] W'.1 W'.2.1 W'.2.2.1 W'.2.2.2 Q) (h3 : q.1 = 3 → ∀ j1 j2 : Option Value, T (some (L0, xs)) (98) 303 273 [some (.retAddr 0), j1, j2, some (.int (iI q.2))] [] W'.1 W'.2.1 W'.2.2.1 W'.2.2.2 Q) (h4 : q.1 = 4 → ∀ j1 j2 : Option Value, T (some (L0, xs)) (98) 303 296 [some (.retAddr 0), j1, j2, some (.int (iI q.2))] [] W'.1 W'.2.1 W'.2.2.1 W'.2.2.2 Q) (h5 : q.1 = 5 → ∀ j1 j2 : Option Value, T (some (L0, xs)) (98) 303 319 [some (.retAddr 0), j1, j2, some (.int (iI q.2))] [] W'.1 W'.2.1 W'.2.2.1 W'.2.2.2 Q) (h6 : q.1 = 6 → ∀ j1 j2 : Option Value, T (some (L0, xs)) (98) 303 362 [some (.retAddr 0), j1, j2, some (.int (iI q.2))] [] W'.1 W'.2.1 W'.2.2.1 W'.2.2.2 Q) (h7 : q.1 = 7 → ∀ j1 j2 : Option Value, T (some (L0, xs)) (98) 303 395 [some (.retAddr 0), j1, j2, some (.int (iI q.2))] [] W'.1 W'.2.1 W'.2.2.1 W'.2.2.2 Q) (h8 : q.1 = 8 → ∀ j1 j2 : Option Value, T (some (L0, xs)) (98) 303 428 [some (.retAddr 0), j1, j2, some (.int (iI q.2))] [] W'.1 W'.2.1 W'.2.2.1 W'.2.2.2 Q) (h9 : q.1 = 9 → ∀ j1 j2 : Option Value, T (some (L0, xs)) (98) 303 481 [some (.retAddr 0), j1, j2, some (.int (iI q.2))] [] W'.1 W'.2.1 W'.2.2.1 W'.2.2.2 Q) (h10 : q.1 = 10 → ∀ j1 j2 : Option Value, T (some (L0, xs)) (98) 303 514 [some (.retAddr 0), j1, j2, some (.int (iI q.2))] [] W'.1 W'.2.1 W'.2.2.1 W'.2.2.2 Q) (h11 : q.1 = 11 → ∀ j1 j2 : Option Value, T (some (L0, xs)) (98) 303 547 [some (.retAddr 0), j1, j2, some (.int (iI q.2))] [] W'.1 W'.2.1 W'.2.2.1 W'.2.2.2 Q) (h12 : q.1 = 12 → ∀ j1 j2 : Option Value, T (some (L0, xs)) (98) 303 580 [some (.retAddr 0), j1, j2, some (.int (iI q.2))] [] W'.1 W'.2.1 W'.2.2.1 W'.2.2.2 Q) (h13 : q.1 = 13 → ∀ j1 j2 : Option Value, T (some (L0, xs)) (98) 303 603 [some (.retAddr 0), j1, j2, some (.int (iI q.2))] [] W'.1 W'.2.1 W'.2.2.1 W'.2.2.2 Q) (h14 : q.1 = 14 → ∀ j1 j2 : Option Value, T (some (L0, xs)) (98) 303 636 [some (.retAddr 0), j1, j2, some (.int (iI q.2))] [] W'.1 W'.2.1 W'.2.2.1 W'.2.2.2 Q) (h15 : q.1 = 15 → ∀ j1 j2 : Option Value, T (some (L0, xs)) (98) 303 669 [some (.retAddr 0), j1, j2, some (.int (iI q.2))] [] W'.1 W'.2.1 W'.2.2.1 W'.2.2.2 Q) (h16 : q.1 = 16 → ∀ j1 j2 : Option Value, T (some (L0, xs)) (98) 303 692 [some (.retAddr 0), j1, j2, some (.int (iI q.2))] [] W'.1 W'.2.1 W'.2.2.1 W'.2.2.2 Q) (h17 : q.1 = 17 → ∀ j1 j2 : Option Value, T (some (L0, xs)) (98) 303 715 [some (.retAddr 0), j1, j2, some (.int (iI q.2))] [] W'.1 W'.2.1 W'.2.2.1 W'.2.2.2 Q) (h18 : q.1 = 18 → ∀ j1 j2 : Option Value, T (some (L0, xs)) (98) 303 758 [some (.retAddr 0), j1, j2, some (.int (iI q.2))] [] W'.1 W'.2.1 W'.2.2.1 W'.2.2.2 Q) (h19 : q.1 = 19 → ∀ j1 j2 : Option Value, T (some (L0, xs)) (98) 303 781 [some (.retAddr 0), j1, j2, some (.int (iI q.2))] [] W'.1 W'.2.1 W'.2.2.1 W'.2.2.2 Q) (h20 : q.1 = 20 → ∀ j1 j2 : Option Value, T (some (L0, xs)) (98) 303 804 [some (.retAddr 0), j1, j2, some (.int (iI q.2))] [] W'.1 W'.2.1 W'.2.2.1 W'.2.2.2 Q) (h21 : q.1 = 21 → ∀ j1 j2 : Option Value, T (some (L0, xs)) (98) 303 837 [some (.retAddr 0), j1, j2, some (.int (iI q.2))] [] W'.1 W'.2.1 W'.2.2.1 W'.2.2.2 Q) (h22 : q.1 = 22 → ∀ j1 j2 : Option Value, T (some (L0, xs)) (98) 303 880 [some (.retAddr 0), j1, j2, some (.int (iI q.2))] [] W'.1 W'.2.1 W'.2.2.1 W'.2.2.2 Q) (h23 : q.1 = 23 → ∀ j1 j2 : Option Value, T (some (L0, xs)) (98) 303 903 [some (.retAddr 0), j1, j2, some (.int (iI q.2))] [] W'.1 W'.2.1 W'.2.2.1 W'.2.2.2 Q) (h24 : q.1 = 24 → ∀ j1 j2 : Option Value, T (some (L0, xs)) (98) 303 916 [some (.retAddr 0), j1, j2, some (.int (iI q.2))] [] W'.1 W'.2.1 W'.2.2.1 W'.2.2.2 Q) (h25 : q.1 = 25 → ∀ j1 j2 : Option Value, T (some (L0, xs)) (98) 303 939 [some (.retAddr 0), j1, j2, some (.int (iI q.2))] [] W'.1 W'.2.1 W'.2.2.1 W'.2.2.2 Q) (h26 : q.1 = 26 → ∀ j1 j2 : Option Value, T (some (L0, xs)) (98) 303 962 [some (.retAddr 0), j1, j2, some (.int (iI q.2))] [] W'.1 W'.2.1 W'.2.2.1 W'.2.2.2 Q) (h27 : q.1 = 27 → ∀ j1 j2 : Option Value, T (some (L0, xs)) (98) 303 975 [some (.retAddr 0), j1, j2, some (.int (iI q.2))] [] W'.1 W'.2.1 W'.2.2.1 W'.2.2.2 Q) (h28 : q.1 = 28 → ∀ j1 j2 : Option Value, T (some (L0, xs)) (98) 303 999 [some (.retAddr 0), j1, j2, some (.int (iI q.2))] [] W'.1 W'.2.1 W'.2.2.1 W'.2.2.2 Q) (h29 : q.1 = 29 → ∀ j1 j2 : Option Value, T (some (L0, xs)) (98) 303 1012 [some (.retAddr 0), j1, j2, some (.int (iI q.2))] [] W'.1 W'.2.1 W'.2.2.1 W'.2.2.2 Q) (h30 : q.1 = 30 → ∀ j1 j2 : Option Value, T (some (L0, xs)) (98) 303 1035 [some (.retAddr 0), j1, j2, some (.int (iI q.2))] [] W'.1 W'.2.1 W'.2.2.1 W'.2.2.2 Q) (h31 : q.1 = 31 → ∀ j1 j2 : Option Value, T (some (L0, xs)) (98) 303 1048 [some (.retAddr 0), j1, j2, some (.int (iI q.2))] [] W'.1 W'.2.1 W'.2.2.1 W'.2.2.2 Q) (h32 : q.1 = 32 → ∀ j1 j2 : Option Value, T (some (L0, xs)) (98) 303 1071 [some (.retAddr 0), j1, j2, some (.int (iI q.2))] [] W'.1 W'.2.1 W'.2.2.1 W'.2.2.2 Q) (h33 : q.1 = 33 → ∀ j1 j2 : Option Value, T (some (L0, xs)) (98) 303 1079 [some (.retAddr 0), j1, j2, some (.int (iI q.2))] [] W'.1 W'.2.1 W'.2.2.1 W'.2.2.2 Q) (h : B_L_law_18 L0 xs r1 r2 x3 W = some (W', q)) : T (some (L0, xs)) (98) 303 18 [some (.retAddr 0), some (.ref r1), some (.ref r2), some (.int (iI x3))] [] W.1 W.2.1 W.2.2.1 W.2.2.2 Q := by
  unfold B_L_law_18 at h
  obtain ⟨⟨f17, f18⟩, h⟩ := gd_some h
  refine t_l fL_law_18 rfl rfl rfl rfl ?_
  refine t_l fL_law_19 rfl rfl rfl rfl ?_
  refine k8_lenX fL_law_20 ?_
  refine t_s fL_law_21 rfl rfl rfl ?_
  refine k9_isub fL_law_23 ?_
  obtain ⟨g20, h⟩ := gd_some h
  obtain ⟨g21, h⟩ := gd_some h
  refine k9_ic_gt fL_law_24 rfl g20 g21 (fun c19 => ?_) (fun c19 => ?_)
  · replace h := ite_t (c19) h
    cases h
    exact h33 rfl _ _
  · replace h := ite_f (c19) h
    refine t_l fL_law_27 rfl rfl rfl rfl ?_
    refine t_l fL_law_28 rfl rfl rfl rfl ?_
    obtain ⟨g22, h⟩ := gd_some h
    refine k8_iaX fL_law_29 g22.1 g22.2.1 g22.2.2 ?_
    refine t_s fL_law_30 rfl rfl rfl ?_
    refine k8_iand32 fL_law_32 ?_
    obtain ⟨g23, h⟩ := gd_some h
    by_cases c24 : (((xs x3.toNat).toInt) % 32) = 0
    · replace h := ite_t c24 h
      refine k9_sw 176 fL_law_33 g23 (by rw [c24]; rfl) (by rw [c24]; exact Or.inr (Or.inr rfl)) ?_
      refine t_l fL_law_176 rfl rfl rfl rfl ?_
      refine t_l fL_law_177 rfl rfl rfl rfl ?_
      refine t_l fL_law_178 rfl rfl rfl rfl ?_
      refine t_s fL_law_179 rfl rfl rfl ?_
      refine k9_iadd fL_law_180 ?_
      obtain ⟨g25, h⟩ := gd_some h
      refine k8_iaX fL_law_181 g25.1 g25.2.1 g25.2.2 ?_
      refine t_l fL_law_182 rfl rfl rfl rfl ?_
      refine t_l fL_law_183 rfl rfl rfl rfl ?_
      refine t_s fL_law_184 rfl rfl rfl ?_
      refine k9_iadd fL_law_185 ?_
      obtain ⟨g26, h⟩ := gd_some h
      refine k8_iaX fL_law_186 g26.1 g26.2.1 g26.2.2 ?_
      refine t_l fL_law_187 rfl rfl rfl rfl ?_
      refine t_l fL_law_188 rfl rfl rfl rfl ?_
      refine t_s fL_law_189 rfl rfl rfl ?_
      refine k9_iadd fL_law_190 ?_
      obtain ⟨g27, h⟩ := gd_some h
      refine k8_iaX fL_law_191 g27.1 g27.2.1 g27.2.2 ?_
      refine t_l fL_law_192 rfl rfl rfl rfl ?_
      refine t_l fL_law_193 rfl rfl rfl rfl ?_
      refine t_s fL_law_194 rfl rfl rfl ?_
      refine k9_iadd fL_law_195 ?_
      obtain ⟨g28, h⟩ := gd_some h
      refine k8_iaX fL_law_196 g28.1 g28.2.1 g28.2.2 ?_
      refine t_l fL_law_197 rfl rfl rfl rfl ?_
      refine t_l fL_law_198 rfl rfl rfl rfl ?_
      refine t_s fL_law_199 rfl rfl rfl ?_
      refine k9_iadd fL_law_200 ?_
      obtain ⟨g29, h⟩ := gd_some h
      refine k8_iaX fL_law_201 g29.1 g29.2.1 g29.2.2 ?_
      obtain ⟨V30, v31, e32, h⟩ := bd_some h
      refine kcX9_feed fL_law_202 (f17).1 rfl (q_X9_feed (f17) e32) (by decide) ?_
      refine t_l fL_law_205 rfl rfl rfl rfl ?_
      refine t_l fL_law_206 rfl rfl rfl rfl ?_
      refine t_l fL_law_207 rfl rfl rfl rfl ?_
      refine t_s fL_law_208 rfl rfl rfl ?_
      refine k9_iadd fL_law_209 ?_
      refine k8_iaX fL_law_210 g25.1 g25.2.1 g25.2.2 ?_
      refine t_l fL_law_211 rfl rfl rfl rfl ?_
      refine t_l fL_law_212 rfl rfl rfl rfl ?_
      refine t_s fL_law_213 rfl rfl rfl ?_
      refine k9_iadd fL_law_214 ?_
      refine k8_iaX fL_law_215 g26.1 g26.2.1 g26.2.2 ?_
      refine t_l fL_law_216 rfl rfl rfl rfl ?_
      refine t_l fL_law_217 rfl rfl rfl rfl ?_
      refine t_s fL_law_218 rfl rfl rfl ?_
      refine k9_iadd fL_law_219 ?_
      refine k8_iaX fL_law_220 g27.1 g27.2.1 g27.2.2 ?_
      refine t_l fL_law_221 rfl rfl rfl rfl ?_
      refine t_l fL_law_222 rfl rfl rfl rfl ?_
      refine t_s fL_law_223 rfl rfl rfl ?_
      refine k9_iadd fL_law_224 ?_
      refine k8_iaX fL_law_225 g28.1 g28.2.1 g28.2.2 ?_
      refine t_l fL_law_226 rfl rfl rfl rfl ?_
      refine t_l fL_law_227 rfl rfl rfl rfl ?_
      refine t_s fL_law_228 rfl rfl rfl ?_
      refine k9_iadd fL_law_229 ?_
      refine k8_iaX fL_law_230 g29.1 g29.2.1 g29.2.2 ?_
      obtain ⟨V33, v34, e35, h⟩ := bd_some h
      refine kcX10_feed fL_law_231 (f18).1 rfl (q_X10_feed (f18) e35) (by decide) ?_
      obtain ⟨g37, h⟩ := gd_some h
      obtain ⟨g38, h⟩ := gd_some h
      refine k9_ic_eq fL_law_234 rfl g37 g38 (fun c36 => ?_) (fun c36 => ?_)
      · replace h := ite_t (c36) h
        replace h := lt_some h
        refine k9_iinc fL_law_1073 rfl (Nat.le_of_ble_eq_true rfl) rfl ?_
        refine k9_goto fL_law_1076 rfl ?_
        cases h
        exact h0 rfl
      · replace h := ite_f (c36) h
        cases h
        exact h1 rfl _ _
    replace h := ite_f c24 h
    by_cases c40 : (((xs x3.toNat).toInt) % 32) = 1
    · replace h := ite_t c40 h
      refine k9_sw 239 fL_law_33 g23 (by rw [c40]; rfl) (by rw [c40]; exact Or.inr (Or.inr rfl)) ?_
      refine t_l fL_law_239 rfl rfl rfl rfl ?_
      refine t_l fL_law_240 rfl rfl rfl rfl ?_
      refine t_l fL_law_241 rfl rfl rfl rfl ?_
      refine t_s fL_law_242 rfl rfl rfl ?_
      refine k9_iadd fL_law_243 ?_
      obtain ⟨g41, h⟩ := gd_some h
      refine k8_iaX fL_law_244 g41.1 g41.2.1 g41.2.2 ?_
      obtain ⟨V42, v43, e44, h⟩ := bd_some h
      refine kcX9_end fL_law_245 (f17).1 rfl (q_X9_end (f17) e44) (by decide) ?_
      refine t_l fL_law_248 rfl rfl rfl rfl ?_
      refine t_l fL_law_249 rfl rfl rfl rfl ?_
      refine t_l fL_law_250 rfl rfl rfl rfl ?_
      refine t_s fL_law_251 rfl rfl rfl ?_
      refine k9_iadd fL_law_252 ?_
      refine k8_iaX fL_law_253 g41.1 g41.2.1 g41.2.2 ?_
      obtain ⟨V45, v46, e47, h⟩ := bd_some h
      refine kcX10_end fL_law_254 (f18).1 rfl (q_X10_end (f18) e47) (by decide) ?_
      obtain ⟨g49, h⟩ := gd_some h
      obtain ⟨g50, h⟩ := gd_some h
      refine k9_ic_eq fL_law_257 rfl g49 g50 (fun c48 => ?_) (fun c48 => ?_)
      · replace h := ite_t (c48) h
        replace h := lt_some h
        refine k9_iinc fL_law_1073 rfl (Nat.le_of_ble_eq_true rfl) rfl ?_
        refine k9_goto fL_law_1076 rfl ?_
        cases h
        exact h0 rfl
      · replace h := ite_f (c48) h
        cases h
        exact h2 rfl _ _
    replace h := ite_f c40 h
    by_cases c52 : (((xs x3.toNat).toInt) % 32) = 2
    · replace h := ite_t c52 h
      refine k9_sw 262 fL_law_33 g23 (by rw [c52]; rfl) (by rw [c52]; exact Or.inr (Or.inr rfl)) ?_
      refine t_l fL_law_262 rfl rfl rfl rfl ?_
      obtain ⟨W53, v54, e55, h⟩ := bd_some h
      refine kcX9_city fL_law_263 (f17).1 rfl (q_X9_city e55) (by decide) ?_
      obtain ⟨⟨f56, f57⟩, h⟩ := gd_some h
      refine t_l fL_law_266 rfl rfl rfl rfl ?_
      obtain ⟨V58, v59, e60, h⟩ := bd_some h
      refine kcX10_city fL_law_267 (f57).1 rfl (q_X10_city (f57) e60) (by decide) ?_
      obtain ⟨g62, h⟩ := gd_some h
      obtain ⟨g63, h⟩ := gd_some h
      refine k9_ic_eq fL_law_270 rfl g62 g63 (fun c61 => ?_) (fun c61 => ?_)
      · replace h := ite_t (c61) h
        replace h := lt_some h
        refine k9_iinc fL_law_1073 rfl (Nat.le_of_ble_eq_true rfl) rfl ?_
        refine k9_goto fL_law_1076 rfl ?_
        cases h
        exact h0 rfl
      · replace h := ite_f (c61) h
        cases h
        exact h3 rfl _ _
    replace h := ite_f c52 h
    by_cases c65 : (((xs x3.toNat).toInt) % 32) = 3
    · replace h := ite_t c65 h
      refine k9_sw 275 fL_law_33 g23 (by rw [c65]; rfl) (by rw [c65]; exact Or.inr (Or.inr rfl)) ?_
      refine t_l fL_law_275 rfl rfl rfl rfl ?_
      refine t_l fL_law_276 rfl rfl rfl rfl ?_
      refine t_l fL_law_277 rfl rfl rfl rfl ?_
      refine t_s fL_law_278 rfl rfl rfl ?_
      refine k9_iadd fL_law_279 ?_
      obtain ⟨g66, h⟩ := gd_some h
      refine k8_iaX fL_law_280 g66.1 g66.2.1 g66.2.2 ?_
      obtain ⟨V67, v68, e69, h⟩ := bd_some h
      refine kcX9_fault fL_law_281 (f17).1 rfl (q_X9_fault (f17) e69) (by decide) ?_
      refine t_l fL_law_284 rfl rfl rfl rfl ?_
      refine t_l fL_law_285 rfl rfl rfl rfl ?_
      refine t_l fL_law_286 rfl rfl rfl rfl ?_
      refine t_s fL_law_287 rfl rfl rfl ?_
      refine k9_iadd fL_law_288 ?_
      refine k8_iaX fL_law_289 g66.1 g66.2.1 g66.2.2 ?_
      obtain ⟨V70, v71, e72, h⟩ := bd_some h
      refine kcX10_fault fL_law_290 (f18).1 rfl (q_X10_fault (f18) e72) (by decide) ?_
      obtain ⟨g74, h⟩ := gd_some h
      obtain ⟨g75, h⟩ := gd_some h
      refine k9_ic_eq fL_law_293 rfl g74 g75 (fun c73 => ?_) (fun c73 => ?_)
      · replace h := ite_t (c73) h
        replace h := lt_some h
        refine k9_iinc fL_law_1073 rfl (Nat.le_of_ble_eq_true rfl) rfl ?_
        refine k9_goto fL_law_1076 rfl ?_
        cases h
        exact h0 rfl
      · replace h := ite_f (c73) h
        cases h
        exact h4 rfl _ _
    replace h := ite_f c65 h
    by_cases c77 : (((xs x3.toNat).toInt) % 32) = 4
    · replace h := ite_t c77 h
      refine k9_sw 298 fL_law_33 g23 (by rw [c77]; rfl) (by rw [c77]; exact Or.inr (Or.inr rfl)) ?_
      refine t_l fL_law_298 rfl rfl rfl rfl ?_
      refine t_l fL_law_299 rfl rfl rfl rfl ?_
      refine t_l fL_law_300 rfl rfl rfl rfl ?_
      refine t_s fL_law_301 rfl rfl rfl ?_
      refine k9_iadd fL_law_302 ?_
      obtain ⟨g78, h⟩ := gd_some h
      refine k8_iaX fL_law_303 g78.1 g78.2.1 g78.2.2 ?_
      obtain ⟨V79, v80, e81, h⟩ := bd_some h
      refine kcX9_has fL_law_304 (f17).1 rfl (q_X9_has (f17) e81) (by decide) ?_
      refine t_l fL_law_307 rfl rfl rfl rfl ?_
      refine t_l fL_law_308 rfl rfl rfl rfl ?_
      refine t_l fL_law_309 rfl rfl rfl rfl ?_
      refine t_s fL_law_310 rfl rfl rfl ?_
      refine k9_iadd fL_law_311 ?_
      refine k8_iaX fL_law_312 g78.1 g78.2.1 g78.2.2 ?_
      obtain ⟨V82, v83, e84, h⟩ := bd_some h
      refine kcX10_has fL_law_313 (f18).1 rfl (q_X10_has (f18) e84) (by decide) ?_
      obtain ⟨g86, h⟩ := gd_some h
      obtain ⟨g87, h⟩ := gd_some h
      refine k9_ic_eq fL_law_316 rfl g86 g87 (fun c85 => ?_) (fun c85 => ?_)
      · replace h := ite_t (c85) h
        replace h := lt_some h
        refine k9_iinc fL_law_1073 rfl (Nat.le_of_ble_eq_true rfl) rfl ?_
        refine k9_goto fL_law_1076 rfl ?_
        cases h
        exact h0 rfl
      · replace h := ite_f (c85) h
        cases h
        exact h5 rfl _ _
    replace h := ite_f c77 h
    by_cases c89 : (((xs x3.toNat).toInt) % 32) = 5
    · replace h := ite_t c89 h
      refine k9_sw 321 fL_law_33 g23 (by rw [c89]; rfl) (by rw [c89]; exact Or.inr (Or.inr rfl)) ?_
      refine t_l fL_law_321 rfl rfl rfl rfl ?_
      refine t_l fL_law_322 rfl rfl rfl rfl ?_
      refine t_l fL_law_323 rfl rfl rfl rfl ?_
      refine t_s fL_law_324 rfl rfl rfl ?_
      refine k9_iadd fL_law_325 ?_
      obtain ⟨g90, h⟩ := gd_some h
      refine k8_iaX fL_law_326 g90.1 g90.2.1 g90.2.2 ?_
      refine t_l fL_law_327 rfl rfl rfl rfl ?_
      refine t_l fL_law_328 rfl rfl rfl rfl ?_
      refine t_s fL_law_329 rfl rfl rfl ?_
      refine k9_iadd fL_law_330 ?_
      obtain ⟨g91, h⟩ := gd_some h
      refine k8_iaX fL_law_331 g91.1 g91.2.1 g91.2.2 ?_
      refine t_l fL_law_332 rfl rfl rfl rfl ?_
      refine t_l fL_law_333 rfl rfl rfl rfl ?_
      refine t_s fL_law_334 rfl rfl rfl ?_
      refine k9_iadd fL_law_335 ?_
      obtain ⟨g92, h⟩ := gd_some h
      refine k8_iaX fL_law_336 g92.1 g92.2.1 g92.2.2 ?_
      obtain ⟨V93, v94, e95, h⟩ := bd_some h
      refine kcX9_letter fL_law_337 (f17).1 rfl (q_X9_letter (f17) e95) (by decide) ?_
      refine t_l fL_law_340 rfl rfl rfl rfl ?_
      refine t_l fL_law_341 rfl rfl rfl rfl ?_
      refine t_l fL_law_342 rfl rfl rfl rfl ?_
      refine t_s fL_law_343 rfl rfl rfl ?_
      refine k9_iadd fL_law_344 ?_
      refine k8_iaX fL_law_345 g90.1 g90.2.1 g90.2.2 ?_
      refine t_l fL_law_346 rfl rfl rfl rfl ?_
      refine t_l fL_law_347 rfl rfl rfl rfl ?_
      refine t_s fL_law_348 rfl rfl rfl ?_
      refine k9_iadd fL_law_349 ?_
      refine k8_iaX fL_law_350 g91.1 g91.2.1 g91.2.2 ?_
      refine t_l fL_law_351 rfl rfl rfl rfl ?_
      refine t_l fL_law_352 rfl rfl rfl rfl ?_
      refine t_s fL_law_353 rfl rfl rfl ?_
      refine k9_iadd fL_law_354 ?_
      refine k8_iaX fL_law_355 g92.1 g92.2.1 g92.2.2 ?_
      obtain ⟨V96, v97, e98, h⟩ := bd_some h
      refine kcX10_letter fL_law_356 (f18).1 rfl (q_X10_letter (f18) e98) (by decide) ?_
      obtain ⟨g100, h⟩ := gd_some h
      obtain ⟨g101, h⟩ := gd_some h
      refine k9_ic_eq fL_law_359 rfl g100 g101 (fun c99 => ?_) (fun c99 => ?_)
      · replace h := ite_t (c99) h
        replace h := lt_some h
        refine k9_iinc fL_law_1073 rfl (Nat.le_of_ble_eq_true rfl) rfl ?_
        refine k9_goto fL_law_1076 rfl ?_
        cases h
        exact h0 rfl
      · replace h := ite_f (c99) h
        cases h
        exact h6 rfl _ _
    replace h := ite_f c89 h
    by_cases c103 : (((xs x3.toNat).toInt) % 32) = 6
    · replace h := ite_t c103 h
      refine k9_sw 364 fL_law_33 g23 (by rw [c103]; rfl) (by rw [c103]; exact Or.inr (Or.inr rfl)) ?_
      refine t_l fL_law_364 rfl rfl rfl rfl ?_
      refine t_l fL_law_365 rfl rfl rfl rfl ?_
      refine t_l fL_law_366 rfl rfl rfl rfl ?_
      refine t_s fL_law_367 rfl rfl rfl ?_
      refine k9_iadd fL_law_368 ?_
      obtain ⟨g104, h⟩ := gd_some h
      refine k8_iaX fL_law_369 g104.1 g104.2.1 g104.2.2 ?_
      refine t_l fL_law_370 rfl rfl rfl rfl ?_
      refine t_l fL_law_371 rfl rfl rfl rfl ?_
      refine t_s fL_law_372 rfl rfl rfl ?_
      refine k9_iadd fL_law_373 ?_
      obtain ⟨g105, h⟩ := gd_some h
      refine k8_iaX fL_law_374 g105.1 g105.2.1 g105.2.2 ?_
      obtain ⟨V106, v107, e108, h⟩ := bd_some h
      refine kcX9_person fL_law_375 (f17).1 rfl (q_X9_person (f17) e108) (by decide) ?_
      refine t_l fL_law_378 rfl rfl rfl rfl ?_
      refine t_l fL_law_379 rfl rfl rfl rfl ?_
      refine t_l fL_law_380 rfl rfl rfl rfl ?_
      refine t_s fL_law_381 rfl rfl rfl ?_
      refine k9_iadd fL_law_382 ?_
      refine k8_iaX fL_law_383 g104.1 g104.2.1 g104.2.2 ?_
      refine t_l fL_law_384 rfl rfl rfl rfl ?_
      refine t_l fL_law_385 rfl rfl rfl rfl ?_
      refine t_s fL_law_386 rfl rfl rfl ?_
      refine k9_iadd fL_law_387 ?_
      refine k8_iaX fL_law_388 g105.1 g105.2.1 g105.2.2 ?_
      obtain ⟨V109, v110, e111, h⟩ := bd_some h
      refine kcX10_person fL_law_389 (f18).1 rfl (q_X10_person (f18) e111) (by decide) ?_
      obtain ⟨g113, h⟩ := gd_some h
      obtain ⟨g114, h⟩ := gd_some h
      refine k9_ic_eq fL_law_392 rfl g113 g114 (fun c112 => ?_) (fun c112 => ?_)
      · replace h := ite_t (c112) h
        replace h := lt_some h
        refine k9_iinc fL_law_1073 rfl (Nat.le_of_ble_eq_true rfl) rfl ?_
        refine k9_goto fL_law_1076 rfl ?_
        cases h
        exact h0 rfl
      · replace h := ite_f (c112) h
        cases h
        exact h7 rfl _ _
    replace h := ite_f c103 h
    by_cases c116 : (((xs x3.toNat).toInt) % 32) = 7
    · replace h := ite_t c116 h
      refine k9_sw 397 fL_law_33 g23 (by rw [c116]; rfl) (by rw [c116]; exact Or.inr (Or.inr rfl)) ?_
      refine t_l fL_law_397 rfl rfl rfl rfl ?_
      refine t_l fL_law_398 rfl rfl rfl rfl ?_
      refine t_l fL_law_399 rfl rfl rfl rfl ?_
      refine t_s fL_law_400 rfl rfl rfl ?_
      refine k9_iadd fL_law_401 ?_
      obtain ⟨g117, h⟩ := gd_some h
      refine k8_iaX fL_law_402 g117.1 g117.2.1 g117.2.2 ?_
      refine t_l fL_law_403 rfl rfl rfl rfl ?_
      refine t_l fL_law_404 rfl rfl rfl rfl ?_
      refine t_s fL_law_405 rfl rfl rfl ?_
      refine k9_iadd fL_law_406 ?_
      obtain ⟨g118, h⟩ := gd_some h
      refine k8_iaX fL_law_407 g118.1 g118.2.1 g118.2.2 ?_
      obtain ⟨V119, v120, e121, h⟩ := bd_some h
      refine kcX9_points fL_law_408 (f17).1 rfl (q_X9_points (f17) e121) (by decide) ?_
      refine t_l fL_law_411 rfl rfl rfl rfl ?_
      refine t_l fL_law_412 rfl rfl rfl rfl ?_
      refine t_l fL_law_413 rfl rfl rfl rfl ?_
      refine t_s fL_law_414 rfl rfl rfl ?_
      refine k9_iadd fL_law_415 ?_
      refine k8_iaX fL_law_416 g117.1 g117.2.1 g117.2.2 ?_
      refine t_l fL_law_417 rfl rfl rfl rfl ?_
      refine t_l fL_law_418 rfl rfl rfl rfl ?_
      refine t_s fL_law_419 rfl rfl rfl ?_
      refine k9_iadd fL_law_420 ?_
      refine k8_iaX fL_law_421 g118.1 g118.2.1 g118.2.2 ?_
      obtain ⟨V122, v123, e124, h⟩ := bd_some h
      refine kcX10_points fL_law_422 (f18).1 rfl (q_X10_points (f18) e124) (by decide) ?_
      obtain ⟨g126, h⟩ := gd_some h
      obtain ⟨g127, h⟩ := gd_some h
      refine k9_ic_eq fL_law_425 rfl g126 g127 (fun c125 => ?_) (fun c125 => ?_)
      · replace h := ite_t (c125) h
        replace h := lt_some h
        refine k9_iinc fL_law_1073 rfl (Nat.le_of_ble_eq_true rfl) rfl ?_
        refine k9_goto fL_law_1076 rfl ?_
        cases h
        exact h0 rfl
      · replace h := ite_f (c125) h
        cases h
        exact h8 rfl _ _
    replace h := ite_f c116 h
    by_cases c129 : (((xs x3.toNat).toInt) % 32) = 8
    · replace h := ite_t c129 h
      refine k9_sw 430 fL_law_33 g23 (by rw [c129]; rfl) (by rw [c129]; exact Or.inr (Or.inr rfl)) ?_
      refine t_l fL_law_430 rfl rfl rfl rfl ?_
      refine t_l fL_law_431 rfl rfl rfl rfl ?_
      refine t_l fL_law_432 rfl rfl rfl rfl ?_
      refine t_s fL_law_433 rfl rfl rfl ?_
      refine k9_iadd fL_law_434 ?_
      obtain ⟨g130, h⟩ := gd_some h
      refine k8_iaX fL_law_435 g130.1 g130.2.1 g130.2.2 ?_
      refine t_l fL_law_436 rfl rfl rfl rfl ?_
      refine t_l fL_law_437 rfl rfl rfl rfl ?_
      refine t_s fL_law_438 rfl rfl rfl ?_
      refine k9_iadd fL_law_439 ?_
      obtain ⟨g131, h⟩ := gd_some h
      refine k8_iaX fL_law_440 g131.1 g131.2.1 g131.2.2 ?_
      refine t_l fL_law_441 rfl rfl rfl rfl ?_
      refine t_l fL_law_442 rfl rfl rfl rfl ?_
      refine t_s fL_law_443 rfl rfl rfl ?_
      refine k9_iadd fL_law_444 ?_
      obtain ⟨g132, h⟩ := gd_some h
      refine k8_iaX fL_law_445 g132.1 g132.2.1 g132.2.2 ?_
      refine t_l fL_law_446 rfl rfl rfl rfl ?_
      refine t_l fL_law_447 rfl rfl rfl rfl ?_
      refine t_s fL_law_448 rfl rfl rfl ?_
      refine k9_iadd fL_law_449 ?_
      obtain ⟨g133, h⟩ := gd_some h
      refine k8_iaX fL_law_450 g133.1 g133.2.1 g133.2.2 ?_
      obtain ⟨V134, v135, e136, h⟩ := bd_some h
      refine kcX9_could fL_law_451 (f17).1 rfl (q_X9_could (f17) e136) (by decide) ?_
      refine t_l fL_law_454 rfl rfl rfl rfl ?_
      refine t_l fL_law_455 rfl rfl rfl rfl ?_
      refine t_l fL_law_456 rfl rfl rfl rfl ?_
      refine t_s fL_law_457 rfl rfl rfl ?_
      refine k9_iadd fL_law_458 ?_
      refine k8_iaX fL_law_459 g130.1 g130.2.1 g130.2.2 ?_
      refine t_l fL_law_460 rfl rfl rfl rfl ?_
      refine t_l fL_law_461 rfl rfl rfl rfl ?_
      refine t_s fL_law_462 rfl rfl rfl ?_
      refine k9_iadd fL_law_463 ?_
      refine k8_iaX fL_law_464 g131.1 g131.2.1 g131.2.2 ?_
      refine t_l fL_law_465 rfl rfl rfl rfl ?_
      refine t_l fL_law_466 rfl rfl rfl rfl ?_
      refine t_s fL_law_467 rfl rfl rfl ?_
      refine k9_iadd fL_law_468 ?_
      refine k8_iaX fL_law_469 g132.1 g132.2.1 g132.2.2 ?_
      refine t_l fL_law_470 rfl rfl rfl rfl ?_
      refine t_l fL_law_471 rfl rfl rfl rfl ?_
      refine t_s fL_law_472 rfl rfl rfl ?_
      refine k9_iadd fL_law_473 ?_
      refine k8_iaX fL_law_474 g133.1 g133.2.1 g133.2.2 ?_
      obtain ⟨V137, v138, e139, h⟩ := bd_some h
      refine kcX10_could fL_law_475 (f18).1 rfl (q_X10_could (f18) e139) (by decide) ?_
      obtain ⟨g141, h⟩ := gd_some h
      obtain ⟨g142, h⟩ := gd_some h
      refine k9_ic_eq fL_law_478 rfl g141 g142 (fun c140 => ?_) (fun c140 => ?_)
      · replace h := ite_t (c140) h
        replace h := lt_some h
        refine k9_iinc fL_law_1073 rfl (Nat.le_of_ble_eq_true rfl) rfl ?_
        refine k9_goto fL_law_1076 rfl ?_
        cases h
        exact h0 rfl
      · replace h := ite_f (c140) h
        cases h
        exact h9 rfl _ _
    replace h := ite_f c129 h
    by_cases c144 : (((xs x3.toNat).toInt) % 32) = 9
    · replace h := ite_t c144 h
      refine k9_sw 483 fL_law_33 g23 (by rw [c144]; rfl) (by rw [c144]; exact Or.inr (Or.inr rfl)) ?_
      refine t_l fL_law_483 rfl rfl rfl rfl ?_
      refine t_l fL_law_484 rfl rfl rfl rfl ?_
      refine t_l fL_law_485 rfl rfl rfl rfl ?_
      refine t_s fL_law_486 rfl rfl rfl ?_
      refine k9_iadd fL_law_487 ?_
      obtain ⟨g145, h⟩ := gd_some h
      refine k8_iaX fL_law_488 g145.1 g145.2.1 g145.2.2 ?_
      refine t_l fL_law_489 rfl rfl rfl rfl ?_
      refine t_l fL_law_490 rfl rfl rfl rfl ?_
      refine t_s fL_law_491 rfl rfl rfl ?_
      refine k9_iadd fL_law_492 ?_
      obtain ⟨g146, h⟩ := gd_some h
      refine k8_iaX fL_law_493 g146.1 g146.2.1 g146.2.2 ?_
      obtain ⟨V147, v148, e149, h⟩ := bd_some h
      refine kcX9_kept fL_law_494 (f17).1 rfl (q_X9_kept (f17) e149) (by decide) ?_
      refine t_l fL_law_497 rfl rfl rfl rfl ?_
      refine t_l fL_law_498 rfl rfl rfl rfl ?_
      refine t_l fL_law_499 rfl rfl rfl rfl ?_
      refine t_s fL_law_500 rfl rfl rfl ?_
      refine k9_iadd fL_law_501 ?_
      refine k8_iaX fL_law_502 g145.1 g145.2.1 g145.2.2 ?_
      refine t_l fL_law_503 rfl rfl rfl rfl ?_
      refine t_l fL_law_504 rfl rfl rfl rfl ?_
      refine t_s fL_law_505 rfl rfl rfl ?_
      refine k9_iadd fL_law_506 ?_
      refine k8_iaX fL_law_507 g146.1 g146.2.1 g146.2.2 ?_
      obtain ⟨V150, v151, e152, h⟩ := bd_some h
      refine kcX10_kept fL_law_508 (f18).1 rfl (q_X10_kept (f18) e152) (by decide) ?_
      obtain ⟨g154, h⟩ := gd_some h
      obtain ⟨g155, h⟩ := gd_some h
      refine k9_ic_eq fL_law_511 rfl g154 g155 (fun c153 => ?_) (fun c153 => ?_)
      · replace h := ite_t (c153) h
        replace h := lt_some h
        refine k9_iinc fL_law_1073 rfl (Nat.le_of_ble_eq_true rfl) rfl ?_
        refine k9_goto fL_law_1076 rfl ?_
        cases h
        exact h0 rfl
      · replace h := ite_f (c153) h
        cases h
        exact h10 rfl _ _
    replace h := ite_f c144 h
    by_cases c157 : (((xs x3.toNat).toInt) % 32) = 10
    · replace h := ite_t c157 h
      refine k9_sw 516 fL_law_33 g23 (by rw [c157]; rfl) (by rw [c157]; exact Or.inr (Or.inr rfl)) ?_
      refine t_l fL_law_516 rfl rfl rfl rfl ?_
      refine t_l fL_law_517 rfl rfl rfl rfl ?_
      refine t_l fL_law_518 rfl rfl rfl rfl ?_
      refine t_s fL_law_519 rfl rfl rfl ?_
      refine k9_iadd fL_law_520 ?_
      obtain ⟨g158, h⟩ := gd_some h
      refine k8_iaX fL_law_521 g158.1 g158.2.1 g158.2.2 ?_
      refine t_l fL_law_522 rfl rfl rfl rfl ?_
      refine t_l fL_law_523 rfl rfl rfl rfl ?_
      refine t_s fL_law_524 rfl rfl rfl ?_
      refine k9_iadd fL_law_525 ?_
      obtain ⟨g159, h⟩ := gd_some h
      refine k8_iaX fL_law_526 g159.1 g159.2.1 g159.2.2 ?_
      obtain ⟨V160, v161, e162, h⟩ := bd_some h
      refine kcX9_wave fL_law_527 (f17).1 rfl (q_X9_wave (f17) e162) (by decide) ?_
      refine t_l fL_law_530 rfl rfl rfl rfl ?_
      refine t_l fL_law_531 rfl rfl rfl rfl ?_
      refine t_l fL_law_532 rfl rfl rfl rfl ?_
      refine t_s fL_law_533 rfl rfl rfl ?_
      refine k9_iadd fL_law_534 ?_
      refine k8_iaX fL_law_535 g158.1 g158.2.1 g158.2.2 ?_
      refine t_l fL_law_536 rfl rfl rfl rfl ?_
      refine t_l fL_law_537 rfl rfl rfl rfl ?_
      refine t_s fL_law_538 rfl rfl rfl ?_
      refine k9_iadd fL_law_539 ?_
      refine k8_iaX fL_law_540 g159.1 g159.2.1 g159.2.2 ?_
      obtain ⟨V163, v164, e165, h⟩ := bd_some h
      refine kcX10_wave fL_law_541 (f18).1 rfl (q_X10_wave (f18) e165) (by decide) ?_
      obtain ⟨g167, h⟩ := gd_some h
      obtain ⟨g168, h⟩ := gd_some h
      refine k9_ic_eq fL_law_544 rfl g167 g168 (fun c166 => ?_) (fun c166 => ?_)
      · replace h := ite_t (c166) h
        replace h := lt_some h
        refine k9_iinc fL_law_1073 rfl (Nat.le_of_ble_eq_true rfl) rfl ?_
        refine k9_goto fL_law_1076 rfl ?_
        cases h
        exact h0 rfl
      · replace h := ite_f (c166) h
        cases h
        exact h11 rfl _ _
    replace h := ite_f c157 h
    by_cases c170 : (((xs x3.toNat).toInt) % 32) = 11
    · replace h := ite_t c170 h
      refine k9_sw 549 fL_law_33 g23 (by rw [c170]; rfl) (by rw [c170]; exact Or.inr (Or.inr rfl)) ?_
      refine t_l fL_law_549 rfl rfl rfl rfl ?_
      refine t_l fL_law_550 rfl rfl rfl rfl ?_
      refine t_l fL_law_551 rfl rfl rfl rfl ?_
      refine t_s fL_law_552 rfl rfl rfl ?_
      refine k9_iadd fL_law_553 ?_
      obtain ⟨g171, h⟩ := gd_some h
      refine k8_iaX fL_law_554 g171.1 g171.2.1 g171.2.2 ?_
      refine t_l fL_law_555 rfl rfl rfl rfl ?_
      refine t_l fL_law_556 rfl rfl rfl rfl ?_
      refine t_s fL_law_557 rfl rfl rfl ?_
      refine k9_iadd fL_law_558 ?_
      obtain ⟨g172, h⟩ := gd_some h
      refine k8_iaX fL_law_559 g172.1 g172.2.1 g172.2.2 ?_
      obtain ⟨V173, v174, e175, h⟩ := bd_some h
      refine kcX9_would fL_law_560 (f17).1 rfl (q_X9_would (f17) e175) (by decide) ?_
      refine t_l fL_law_563 rfl rfl rfl rfl ?_
      refine t_l fL_law_564 rfl rfl rfl rfl ?_
      refine t_l fL_law_565 rfl rfl rfl rfl ?_
      refine t_s fL_law_566 rfl rfl rfl ?_
      refine k9_iadd fL_law_567 ?_
      refine k8_iaX fL_law_568 g171.1 g171.2.1 g171.2.2 ?_
      refine t_l fL_law_569 rfl rfl rfl rfl ?_
      refine t_l fL_law_570 rfl rfl rfl rfl ?_
      refine t_s fL_law_571 rfl rfl rfl ?_
      refine k9_iadd fL_law_572 ?_
      refine k8_iaX fL_law_573 g172.1 g172.2.1 g172.2.2 ?_
      obtain ⟨V176, v177, e178, h⟩ := bd_some h
      refine kcX10_would fL_law_574 (f18).1 rfl (q_X10_would (f18) e178) (by decide) ?_
      obtain ⟨g180, h⟩ := gd_some h
      obtain ⟨g181, h⟩ := gd_some h
      refine k9_ic_eq fL_law_577 rfl g180 g181 (fun c179 => ?_) (fun c179 => ?_)
      · replace h := ite_t (c179) h
        replace h := lt_some h
        refine k9_iinc fL_law_1073 rfl (Nat.le_of_ble_eq_true rfl) rfl ?_
        refine k9_goto fL_law_1076 rfl ?_
        cases h
        exact h0 rfl
      · replace h := ite_f (c179) h
        cases h
        exact h12 rfl _ _
    replace h := ite_f c170 h
    by_cases c183 : (((xs x3.toNat).toInt) % 32) = 12
    · replace h := ite_t c183 h
      refine k9_sw 582 fL_law_33 g23 (by rw [c183]; rfl) (by rw [c183]; exact Or.inr (Or.inr rfl)) ?_
      refine t_l fL_law_582 rfl rfl rfl rfl ?_
      refine t_l fL_law_583 rfl rfl rfl rfl ?_
      refine t_l fL_law_584 rfl rfl rfl rfl ?_
      refine t_s fL_law_585 rfl rfl rfl ?_
      refine k9_iadd fL_law_586 ?_
      obtain ⟨g184, h⟩ := gd_some h
      refine k8_iaX fL_law_587 g184.1 g184.2.1 g184.2.2 ?_
      obtain ⟨V185, v186, e187, h⟩ := bd_some h
      refine kcX9_first fL_law_588 (f17).1 rfl (q_X9_first (f17) e187) (by decide) ?_
      refine t_l fL_law_591 rfl rfl rfl rfl ?_
      refine t_l fL_law_592 rfl rfl rfl rfl ?_
      refine t_l fL_law_593 rfl rfl rfl rfl ?_
      refine t_s fL_law_594 rfl rfl rfl ?_
      refine k9_iadd fL_law_595 ?_
      refine k8_iaX fL_law_596 g184.1 g184.2.1 g184.2.2 ?_
      obtain ⟨V188, v189, e190, h⟩ := bd_some h
      refine kcX10_first fL_law_597 (f18).1 rfl (q_X10_first (f18) e190) (by decide) ?_
      obtain ⟨g192, h⟩ := gd_some h
      obtain ⟨g193, h⟩ := gd_some h
      refine k9_ic_eq fL_law_600 rfl g192 g193 (fun c191 => ?_) (fun c191 => ?_)
      · replace h := ite_t (c191) h
        replace h := lt_some h
        refine k9_iinc fL_law_1073 rfl (Nat.le_of_ble_eq_true rfl) rfl ?_
        refine k9_goto fL_law_1076 rfl ?_
        cases h
        exact h0 rfl
      · replace h := ite_f (c191) h
        cases h
        exact h13 rfl _ _
    replace h := ite_f c183 h
    by_cases c195 : (((xs x3.toNat).toInt) % 32) = 13
    · replace h := ite_t c195 h
      refine k9_sw 605 fL_law_33 g23 (by rw [c195]; rfl) (by rw [c195]; exact Or.inr (Or.inr rfl)) ?_
      refine t_l fL_law_605 rfl rfl rfl rfl ?_
      refine t_l fL_law_606 rfl rfl rfl rfl ?_
      refine t_l fL_law_607 rfl rfl rfl rfl ?_
      refine t_s fL_law_608 rfl rfl rfl ?_
      refine k9_iadd fL_law_609 ?_
      obtain ⟨g196, h⟩ := gd_some h
      refine k8_iaX fL_law_610 g196.1 g196.2.1 g196.2.2 ?_
      refine t_l fL_law_611 rfl rfl rfl rfl ?_
      refine t_l fL_law_612 rfl rfl rfl rfl ?_
      refine t_s fL_law_613 rfl rfl rfl ?_
      refine k9_iadd fL_law_614 ?_
      obtain ⟨g197, h⟩ := gd_some h
      refine k8_iaX fL_law_615 g197.1 g197.2.1 g197.2.2 ?_
      obtain ⟨V198, v199, e200, h⟩ := bd_some h
      refine kcX9_best fL_law_616 (f17).1 rfl (q_X9_best (f17) e200) (by decide) ?_
      refine t_l fL_law_619 rfl rfl rfl rfl ?_
      refine t_l fL_law_620 rfl rfl rfl rfl ?_
      refine t_l fL_law_621 rfl rfl rfl rfl ?_
      refine t_s fL_law_622 rfl rfl rfl ?_
      refine k9_iadd fL_law_623 ?_
      refine k8_iaX fL_law_624 g196.1 g196.2.1 g196.2.2 ?_
      refine t_l fL_law_625 rfl rfl rfl rfl ?_
      refine t_l fL_law_626 rfl rfl rfl rfl ?_
      refine t_s fL_law_627 rfl rfl rfl ?_
      refine k9_iadd fL_law_628 ?_
      refine k8_iaX fL_law_629 g197.1 g197.2.1 g197.2.2 ?_
      obtain ⟨V201, v202, e203, h⟩ := bd_some h
      refine kcX10_best fL_law_630 (f18).1 rfl (q_X10_best (f18) e203) (by decide) ?_
      obtain ⟨g205, h⟩ := gd_some h
      obtain ⟨g206, h⟩ := gd_some h
      refine k9_ic_eq fL_law_633 rfl g205 g206 (fun c204 => ?_) (fun c204 => ?_)
      · replace h := ite_t (c204) h
        replace h := lt_some h
        refine k9_iinc fL_law_1073 rfl (Nat.le_of_ble_eq_true rfl) rfl ?_
        refine k9_goto fL_law_1076 rfl ?_
        cases h
        exact h0 rfl
      · replace h := ite_f (c204) h
        cases h
        exact h14 rfl _ _
    replace h := ite_f c195 h
    by_cases c208 : (((xs x3.toNat).toInt) % 32) = 14
    · replace h := ite_t c208 h
      refine k9_sw 638 fL_law_33 g23 (by rw [c208]; rfl) (by rw [c208]; exact Or.inr (Or.inr rfl)) ?_
      refine t_l fL_law_638 rfl rfl rfl rfl ?_
      refine t_l fL_law_639 rfl rfl rfl rfl ?_
      refine t_l fL_law_640 rfl rfl rfl rfl ?_
      refine t_s fL_law_641 rfl rfl rfl ?_
      refine k9_iadd fL_law_642 ?_
      obtain ⟨g209, h⟩ := gd_some h
      refine k8_iaX fL_law_643 g209.1 g209.2.1 g209.2.2 ?_
      refine t_l fL_law_644 rfl rfl rfl rfl ?_
      refine t_l fL_law_645 rfl rfl rfl rfl ?_
      refine t_s fL_law_646 rfl rfl rfl ?_
      refine k9_iadd fL_law_647 ?_
      obtain ⟨g210, h⟩ := gd_some h
      refine k8_iaX fL_law_648 g210.1 g210.2.1 g210.2.2 ?_
      obtain ⟨V211, v212, e213, h⟩ := bd_some h
      refine kcX9_study fL_law_649 (f17).1 rfl (q_X9_study (f17) e213) (by decide) ?_
      refine t_l fL_law_652 rfl rfl rfl rfl ?_
      refine t_l fL_law_653 rfl rfl rfl rfl ?_
      refine t_l fL_law_654 rfl rfl rfl rfl ?_
      refine t_s fL_law_655 rfl rfl rfl ?_
      refine k9_iadd fL_law_656 ?_
      refine k8_iaX fL_law_657 g209.1 g209.2.1 g209.2.2 ?_
      refine t_l fL_law_658 rfl rfl rfl rfl ?_
      refine t_l fL_law_659 rfl rfl rfl rfl ?_
      refine t_s fL_law_660 rfl rfl rfl ?_
      refine k9_iadd fL_law_661 ?_
      refine k8_iaX fL_law_662 g210.1 g210.2.1 g210.2.2 ?_
      obtain ⟨V214, v215, e216, h⟩ := bd_some h
      refine kcX10_study fL_law_663 (f18).1 rfl (q_X10_study (f18) e216) (by decide) ?_
      obtain ⟨g218, h⟩ := gd_some h
      obtain ⟨g219, h⟩ := gd_some h
      refine k9_ic_eq fL_law_666 rfl g218 g219 (fun c217 => ?_) (fun c217 => ?_)
      · replace h := ite_t (c217) h
        replace h := lt_some h
        refine k9_iinc fL_law_1073 rfl (Nat.le_of_ble_eq_true rfl) rfl ?_
        refine k9_goto fL_law_1076 rfl ?_
        cases h
        exact h0 rfl
      · replace h := ite_f (c217) h
        cases h
        exact h15 rfl _ _
    replace h := ite_f c208 h
    by_cases c221 : (((xs x3.toNat).toInt) % 32) = 15
    · replace h := ite_t c221 h
      refine k9_sw 671 fL_law_33 g23 (by rw [c221]; rfl) (by rw [c221]; exact Or.inr (Or.inr rfl)) ?_
      refine t_l fL_law_671 rfl rfl rfl rfl ?_
      refine t_l fL_law_672 rfl rfl rfl rfl ?_
      refine t_l fL_law_673 rfl rfl rfl rfl ?_
      refine t_s fL_law_674 rfl rfl rfl ?_
      refine k9_iadd fL_law_675 ?_
      obtain ⟨g222, h⟩ := gd_some h
      refine k8_iaX fL_law_676 g222.1 g222.2.1 g222.2.2 ?_
      obtain ⟨V223, v224, e225, h⟩ := bd_some h
      refine kcX9_change fL_law_677 (f17).1 rfl (q_X9_change (f17) e225) (by decide) ?_
      refine t_l fL_law_680 rfl rfl rfl rfl ?_
      refine t_l fL_law_681 rfl rfl rfl rfl ?_
      refine t_l fL_law_682 rfl rfl rfl rfl ?_
      refine t_s fL_law_683 rfl rfl rfl ?_
      refine k9_iadd fL_law_684 ?_
      refine k8_iaX fL_law_685 g222.1 g222.2.1 g222.2.2 ?_
      obtain ⟨V226, v227, e228, h⟩ := bd_some h
      refine kcX10_change fL_law_686 (f18).1 rfl (q_X10_change (f18) e228) (by decide) ?_
      obtain ⟨g230, h⟩ := gd_some h
      obtain ⟨g231, h⟩ := gd_some h
      refine k9_ic_eq fL_law_689 rfl g230 g231 (fun c229 => ?_) (fun c229 => ?_)
      · replace h := ite_t (c229) h
        replace h := lt_some h
        refine k9_iinc fL_law_1073 rfl (Nat.le_of_ble_eq_true rfl) rfl ?_
        refine k9_goto fL_law_1076 rfl ?_
        cases h
        exact h0 rfl
      · replace h := ite_f (c229) h
        cases h
        exact h16 rfl _ _
    replace h := ite_f c221 h
    by_cases c233 : (((xs x3.toNat).toInt) % 32) = 16
    · replace h := ite_t c233 h
      refine k9_sw 694 fL_law_33 g23 (by rw [c233]; rfl) (by rw [c233]; exact Or.inr (Or.inr rfl)) ?_
      refine t_l fL_law_694 rfl rfl rfl rfl ?_
      refine t_l fL_law_695 rfl rfl rfl rfl ?_
      refine t_l fL_law_696 rfl rfl rfl rfl ?_
      refine t_s fL_law_697 rfl rfl rfl ?_
      refine k9_iadd fL_law_698 ?_
      obtain ⟨g234, h⟩ := gd_some h
      refine k8_iaX fL_law_699 g234.1 g234.2.1 g234.2.2 ?_
      obtain ⟨V235, v236, e237, h⟩ := bd_some h
      refine kcX9_ring fL_law_700 (f17).1 rfl (q_X9_ring (f17) e237) (by decide) ?_
      refine t_l fL_law_703 rfl rfl rfl rfl ?_
      refine t_l fL_law_704 rfl rfl rfl rfl ?_
      refine t_l fL_law_705 rfl rfl rfl rfl ?_
      refine t_s fL_law_706 rfl rfl rfl ?_
      refine k9_iadd fL_law_707 ?_
      refine k8_iaX fL_law_708 g234.1 g234.2.1 g234.2.2 ?_
      obtain ⟨V238, v239, e240, h⟩ := bd_some h
      refine kcX10_ring fL_law_709 (f18).1 rfl (q_X10_ring (f18) e240) (by decide) ?_
      obtain ⟨g242, h⟩ := gd_some h
      obtain ⟨g243, h⟩ := gd_some h
      refine k9_ic_eq fL_law_712 rfl g242 g243 (fun c241 => ?_) (fun c241 => ?_)
      · replace h := ite_t (c241) h
        replace h := lt_some h
        refine k9_iinc fL_law_1073 rfl (Nat.le_of_ble_eq_true rfl) rfl ?_
        refine k9_goto fL_law_1076 rfl ?_
        cases h
        exact h0 rfl
      · replace h := ite_f (c241) h
        cases h
        exact h17 rfl _ _
    replace h := ite_f c233 h
    by_cases c245 : (((xs x3.toNat).toInt) % 32) = 17
    · replace h := ite_t c245 h
      refine k9_sw 717 fL_law_33 g23 (by rw [c245]; rfl) (by rw [c245]; exact Or.inr (Or.inr rfl)) ?_
      refine t_l fL_law_717 rfl rfl rfl rfl ?_
      refine t_l fL_law_718 rfl rfl rfl rfl ?_
      refine t_l fL_law_719 rfl rfl rfl rfl ?_
      refine t_s fL_law_720 rfl rfl rfl ?_
      refine k9_iadd fL_law_721 ?_
      obtain ⟨g246, h⟩ := gd_some h
      refine k8_iaX fL_law_722 g246.1 g246.2.1 g246.2.2 ?_
      refine t_l fL_law_723 rfl rfl rfl rfl ?_
      refine t_l fL_law_724 rfl rfl rfl rfl ?_
      refine t_s fL_law_725 rfl rfl rfl ?_
      refine k9_iadd fL_law_726 ?_
      obtain ⟨g247, h⟩ := gd_some h
      refine k8_iaX fL_law_727 g247.1 g247.2.1 g247.2.2 ?_
      refine t_l fL_law_728 rfl rfl rfl rfl ?_
      refine t_l fL_law_729 rfl rfl rfl rfl ?_
      refine t_s fL_law_730 rfl rfl rfl ?_
      refine k9_iadd fL_law_731 ?_
      obtain ⟨g248, h⟩ := gd_some h
      refine k8_iaX fL_law_732 g248.1 g248.2.1 g248.2.2 ?_
      obtain ⟨V249, v250, e251, h⟩ := bd_some h
      refine kcX9_odds fL_law_733 (f17).1 rfl (q_X9_odds (f17) e251) (by decide) ?_
      refine t_l fL_law_736 rfl rfl rfl rfl ?_
      refine t_l fL_law_737 rfl rfl rfl rfl ?_
      refine t_l fL_law_738 rfl rfl rfl rfl ?_
      refine t_s fL_law_739 rfl rfl rfl ?_
      refine k9_iadd fL_law_740 ?_
      refine k8_iaX fL_law_741 g246.1 g246.2.1 g246.2.2 ?_
      refine t_l fL_law_742 rfl rfl rfl rfl ?_
      refine t_l fL_law_743 rfl rfl rfl rfl ?_
      refine t_s fL_law_744 rfl rfl rfl ?_
      refine k9_iadd fL_law_745 ?_
      refine k8_iaX fL_law_746 g247.1 g247.2.1 g247.2.2 ?_
      refine t_l fL_law_747 rfl rfl rfl rfl ?_
      refine t_l fL_law_748 rfl rfl rfl rfl ?_
      refine t_s fL_law_749 rfl rfl rfl ?_
      refine k9_iadd fL_law_750 ?_
      refine k8_iaX fL_law_751 g248.1 g248.2.1 g248.2.2 ?_
      obtain ⟨V252, v253, e254, h⟩ := bd_some h
      refine kcX10_odds fL_law_752 (f18).1 rfl (q_X10_odds (f18) e254) (by decide) ?_
      obtain ⟨g256, h⟩ := gd_some h
      obtain ⟨g257, h⟩ := gd_some h
      refine k9_ic_eq fL_law_755 rfl g256 g257 (fun c255 => ?_) (fun c255 => ?_)
      · replace h := ite_t (c255) h
        replace h := lt_some h
        refine k9_iinc fL_law_1073 rfl (Nat.le_of_ble_eq_true rfl) rfl ?_
        refine k9_goto fL_law_1076 rfl ?_
        cases h
        exact h0 rfl
      · replace h := ite_f (c255) h
        cases h
        exact h18 rfl _ _
    replace h := ite_f c245 h
    by_cases c259 : (((xs x3.toNat).toInt) % 32) = 18
    · replace h := ite_t c259 h
      refine k9_sw 760 fL_law_33 g23 (by rw [c259]; rfl) (by rw [c259]; exact Or.inr (Or.inr rfl)) ?_
      refine t_l fL_law_760 rfl rfl rfl rfl ?_
      refine t_l fL_law_761 rfl rfl rfl rfl ?_
      refine t_l fL_law_762 rfl rfl rfl rfl ?_
      refine t_s fL_law_763 rfl rfl rfl ?_
      refine k9_iadd fL_law_764 ?_
      obtain ⟨g260, h⟩ := gd_some h
      refine k8_iaX fL_law_765 g260.1 g260.2.1 g260.2.2 ?_
      obtain ⟨V261, v262, e263, h⟩ := bd_some h
      refine kcX9_go fL_law_766 (f17).1 rfl (q_X9_go (f17) e263) (by decide) ?_
      refine t_l fL_law_769 rfl rfl rfl rfl ?_
      refine t_l fL_law_770 rfl rfl rfl rfl ?_
      refine t_l fL_law_771 rfl rfl rfl rfl ?_
      refine t_s fL_law_772 rfl rfl rfl ?_
      refine k9_iadd fL_law_773 ?_
      refine k8_iaX fL_law_774 g260.1 g260.2.1 g260.2.2 ?_
      obtain ⟨V264, v265, e266, h⟩ := bd_some h
      refine kcX10_go fL_law_775 (f18).1 rfl (q_X10_go (f18) e266) (by decide) ?_
      obtain ⟨g268, h⟩ := gd_some h
      obtain ⟨g269, h⟩ := gd_some h
      refine k9_ic_eq fL_law_778 rfl g268 g269 (fun c267 => ?_) (fun c267 => ?_)
      · replace h := ite_t (c267) h
        replace h := lt_some h
        refine k9_iinc fL_law_1073 rfl (Nat.le_of_ble_eq_true rfl) rfl ?_
        refine k9_goto fL_law_1076 rfl ?_
        cases h
        exact h0 rfl
      · replace h := ite_f (c267) h
        cases h
        exact h19 rfl _ _
    replace h := ite_f c259 h
    by_cases c271 : (((xs x3.toNat).toInt) % 32) = 19
    · replace h := ite_t c271 h
      refine k9_sw 783 fL_law_33 g23 (by rw [c271]; rfl) (by rw [c271]; exact Or.inr (Or.inr rfl)) ?_
      refine t_l fL_law_783 rfl rfl rfl rfl ?_
      refine t_l fL_law_784 rfl rfl rfl rfl ?_
      refine t_l fL_law_785 rfl rfl rfl rfl ?_
      refine t_s fL_law_786 rfl rfl rfl ?_
      refine k9_iadd fL_law_787 ?_
      obtain ⟨g272, h⟩ := gd_some h
      refine k8_iaX fL_law_788 g272.1 g272.2.1 g272.2.2 ?_
      obtain ⟨V273, v274, e275, h⟩ := bd_some h
      refine kcX9_call fL_law_789 (f17).1 rfl (q_X9_call (f17) e275) (by decide) ?_
      refine t_l fL_law_792 rfl rfl rfl rfl ?_
      refine t_l fL_law_793 rfl rfl rfl rfl ?_
      refine t_l fL_law_794 rfl rfl rfl rfl ?_
      refine t_s fL_law_795 rfl rfl rfl ?_
      refine k9_iadd fL_law_796 ?_
      refine k8_iaX fL_law_797 g272.1 g272.2.1 g272.2.2 ?_
      obtain ⟨V276, v277, e278, h⟩ := bd_some h
      refine kcX10_call fL_law_798 (f18).1 rfl (q_X10_call (f18) e278) (by decide) ?_
      obtain ⟨g280, h⟩ := gd_some h
      obtain ⟨g281, h⟩ := gd_some h
      refine k9_ic_eq fL_law_801 rfl g280 g281 (fun c279 => ?_) (fun c279 => ?_)
      · replace h := ite_t (c279) h
        replace h := lt_some h
        refine k9_iinc fL_law_1073 rfl (Nat.le_of_ble_eq_true rfl) rfl ?_
        refine k9_goto fL_law_1076 rfl ?_
        cases h
        exact h0 rfl
      · replace h := ite_f (c279) h
        cases h
        exact h20 rfl _ _
    replace h := ite_f c271 h
    by_cases c283 : (((xs x3.toNat).toInt) % 32) = 20
    · replace h := ite_t c283 h
      refine k9_sw 806 fL_law_33 g23 (by rw [c283]; rfl) (by rw [c283]; exact Or.inr (Or.inr rfl)) ?_
      refine t_l fL_law_806 rfl rfl rfl rfl ?_
      refine t_l fL_law_807 rfl rfl rfl rfl ?_
      refine t_l fL_law_808 rfl rfl rfl rfl ?_
      refine t_s fL_law_809 rfl rfl rfl ?_
      refine k9_iadd fL_law_810 ?_
      obtain ⟨g284, h⟩ := gd_some h
      refine k8_iaX fL_law_811 g284.1 g284.2.1 g284.2.2 ?_
      refine t_l fL_law_812 rfl rfl rfl rfl ?_
      refine t_l fL_law_813 rfl rfl rfl rfl ?_
      refine t_s fL_law_814 rfl rfl rfl ?_
      refine k9_iadd fL_law_815 ?_
      obtain ⟨g285, h⟩ := gd_some h
      refine k8_iaX fL_law_816 g285.1 g285.2.1 g285.2.2 ?_
      obtain ⟨V286, v287, e288, h⟩ := bd_some h
      refine kcX9_watch fL_law_817 (f17).1 rfl (q_X9_watch (f17) e288) (by decide) ?_
      refine t_l fL_law_820 rfl rfl rfl rfl ?_
      refine t_l fL_law_821 rfl rfl rfl rfl ?_
      refine t_l fL_law_822 rfl rfl rfl rfl ?_
      refine t_s fL_law_823 rfl rfl rfl ?_
      refine k9_iadd fL_law_824 ?_
      refine k8_iaX fL_law_825 g284.1 g284.2.1 g284.2.2 ?_
      refine t_l fL_law_826 rfl rfl rfl rfl ?_
      refine t_l fL_law_827 rfl rfl rfl rfl ?_
      refine t_s fL_law_828 rfl rfl rfl ?_
      refine k9_iadd fL_law_829 ?_
      refine k8_iaX fL_law_830 g285.1 g285.2.1 g285.2.2 ?_
      obtain ⟨V289, v290, e291, h⟩ := bd_some h
      refine kcX10_watch fL_law_831 (f18).1 rfl (q_X10_watch (f18) e291) (by decide) ?_
      obtain ⟨g293, h⟩ := gd_some h
      obtain ⟨g294, h⟩ := gd_some h
      refine k9_ic_eq fL_law_834 rfl g293 g294 (fun c292 => ?_) (fun c292 => ?_)
      · replace h := ite_t (c292) h
        replace h := lt_some h
        refine k9_iinc fL_law_1073 rfl (Nat.le_of_ble_eq_true rfl) rfl ?_
        refine k9_goto fL_law_1076 rfl ?_
        cases h
        exact h0 rfl
      · replace h := ite_f (c292) h
        cases h
        exact h21 rfl _ _
    replace h := ite_f c283 h
    by_cases c296 : (((xs x3.toNat).toInt) % 32) = 21
    · replace h := ite_t c296 h
      refine k9_sw 839 fL_law_33 g23 (by rw [c296]; rfl) (by rw [c296]; exact Or.inr (Or.inr rfl)) ?_
      refine t_l fL_law_839 rfl rfl rfl rfl ?_
      refine t_l fL_law_840 rfl rfl rfl rfl ?_
      refine t_l fL_law_841 rfl rfl rfl rfl ?_
      refine t_s fL_law_842 rfl rfl rfl ?_
      refine k9_iadd fL_law_843 ?_
      obtain ⟨g297, h⟩ := gd_some h
      refine k8_iaX fL_law_844 g297.1 g297.2.1 g297.2.2 ?_
      refine t_l fL_law_845 rfl rfl rfl rfl ?_
      refine t_l fL_law_846 rfl rfl rfl rfl ?_
      refine t_s fL_law_847 rfl rfl rfl ?_
      refine k9_iadd fL_law_848 ?_
      obtain ⟨g298, h⟩ := gd_some h
      refine k8_iaX fL_law_849 g298.1 g298.2.1 g298.2.2 ?_
      refine t_l fL_law_850 rfl rfl rfl rfl ?_
      refine t_l fL_law_851 rfl rfl rfl rfl ?_
      refine t_s fL_law_852 rfl rfl rfl ?_
      refine k9_iadd fL_law_853 ?_
      obtain ⟨g299, h⟩ := gd_some h
      refine k8_iaX fL_law_854 g299.1 g299.2.1 g299.2.2 ?_
      obtain ⟨V300, v301, e302, h⟩ := bd_some h
      refine kcX9_teach fL_law_855 (f17).1 rfl (q_X9_teach (f17) e302) (by decide) ?_
      refine t_l fL_law_858 rfl rfl rfl rfl ?_
      refine t_l fL_law_859 rfl rfl rfl rfl ?_
      refine t_l fL_law_860 rfl rfl rfl rfl ?_
      refine t_s fL_law_861 rfl rfl rfl ?_
      refine k9_iadd fL_law_862 ?_
      refine k8_iaX fL_law_863 g297.1 g297.2.1 g297.2.2 ?_
      refine t_l fL_law_864 rfl rfl rfl rfl ?_
      refine t_l fL_law_865 rfl rfl rfl rfl ?_
      refine t_s fL_law_866 rfl rfl rfl ?_
      refine k9_iadd fL_law_867 ?_
      refine k8_iaX fL_law_868 g298.1 g298.2.1 g298.2.2 ?_
      refine t_l fL_law_869 rfl rfl rfl rfl ?_
      refine t_l fL_law_870 rfl rfl rfl rfl ?_
      refine t_s fL_law_871 rfl rfl rfl ?_
      refine k9_iadd fL_law_872 ?_
      refine k8_iaX fL_law_873 g299.1 g299.2.1 g299.2.2 ?_
      obtain ⟨V303, v304, e305, h⟩ := bd_some h
      refine kcX10_teach fL_law_874 (f18).1 rfl (q_X10_teach (f18) e305) (by decide) ?_
      obtain ⟨g307, h⟩ := gd_some h
      obtain ⟨g308, h⟩ := gd_some h
      refine k9_ic_eq fL_law_877 rfl g307 g308 (fun c306 => ?_) (fun c306 => ?_)
      · replace h := ite_t (c306) h
        replace h := lt_some h
        refine k9_iinc fL_law_1073 rfl (Nat.le_of_ble_eq_true rfl) rfl ?_
        refine k9_goto fL_law_1076 rfl ?_
        cases h
        exact h0 rfl
      · replace h := ite_f (c306) h
        cases h
        exact h22 rfl _ _
    replace h := ite_f c296 h
    by_cases c310 : (((xs x3.toNat).toInt) % 32) = 22
    · replace h := ite_t c310 h
      refine k9_sw 882 fL_law_33 g23 (by rw [c310]; rfl) (by rw [c310]; exact Or.inr (Or.inr rfl)) ?_
      refine t_l fL_law_882 rfl rfl rfl rfl ?_
      refine t_l fL_law_883 rfl rfl rfl rfl ?_
      refine t_l fL_law_884 rfl rfl rfl rfl ?_
      refine t_s fL_law_885 rfl rfl rfl ?_
      refine k9_iadd fL_law_886 ?_
      obtain ⟨g311, h⟩ := gd_some h
      refine k8_iaX fL_law_887 g311.1 g311.2.1 g311.2.2 ?_
      obtain ⟨V312, v313, e314, h⟩ := bd_some h
      refine kcX9_bells fL_law_888 (f17).1 rfl (q_X9_bells (f17) e314) (by decide) ?_
      refine t_l fL_law_891 rfl rfl rfl rfl ?_
      refine t_l fL_law_892 rfl rfl rfl rfl ?_
      refine t_l fL_law_893 rfl rfl rfl rfl ?_
      refine t_s fL_law_894 rfl rfl rfl ?_
      refine k9_iadd fL_law_895 ?_
      refine k8_iaX fL_law_896 g311.1 g311.2.1 g311.2.2 ?_
      obtain ⟨V315, v316, e317, h⟩ := bd_some h
      refine kcX10_bells fL_law_897 (f18).1 rfl (q_X10_bells (f18) e317) (by decide) ?_
      obtain ⟨g319, h⟩ := gd_some h
      obtain ⟨g320, h⟩ := gd_some h
      refine k9_ic_eq fL_law_900 rfl g319 g320 (fun c318 => ?_) (fun c318 => ?_)
      · replace h := ite_t (c318) h
        replace h := lt_some h
        refine k9_iinc fL_law_1073 rfl (Nat.le_of_ble_eq_true rfl) rfl ?_
        refine k9_goto fL_law_1076 rfl ?_
        cases h
        exact h0 rfl
      · replace h := ite_f (c318) h
        cases h
        exact h23 rfl _ _
    replace h := ite_f c310 h
    by_cases c322 : (((xs x3.toNat).toInt) % 32) = 23
    · replace h := ite_t c322 h
      refine k9_sw 905 fL_law_33 g23 (by rw [c322]; rfl) (by rw [c322]; exact Or.inr (Or.inr rfl)) ?_
      refine t_l fL_law_905 rfl rfl rfl rfl ?_
      obtain ⟨V323, v324, e325, h⟩ := bd_some h
      refine kcX9_undo fL_law_906 (f17).1 rfl (q_X9_undo (f17) e325) (by decide) ?_
      refine t_l fL_law_909 rfl rfl rfl rfl ?_
      obtain ⟨V326, v327, e328, h⟩ := bd_some h
      refine kcX10_undo fL_law_910 (f18).1 rfl (q_X10_undo (f18) e328) (by decide) ?_
      obtain ⟨g330, h⟩ := gd_some h
      obtain ⟨g331, h⟩ := gd_some h
      refine k9_ic_eq fL_law_913 rfl g330 g331 (fun c329 => ?_) (fun c329 => ?_)
      · replace h := ite_t (c329) h
        replace h := lt_some h
        refine k9_iinc fL_law_1073 rfl (Nat.le_of_ble_eq_true rfl) rfl ?_
        refine k9_goto fL_law_1076 rfl ?_
        cases h
        exact h0 rfl
      · replace h := ite_f (c329) h
        cases h
        exact h24 rfl _ _
    replace h := ite_f c322 h
    by_cases c333 : (((xs x3.toNat).toInt) % 32) = 24
    · replace h := ite_t c333 h
      refine k9_sw 918 fL_law_33 g23 (by rw [c333]; rfl) (by rw [c333]; exact Or.inr (Or.inr rfl)) ?_
      refine t_l fL_law_918 rfl rfl rfl rfl ?_
      refine t_l fL_law_919 rfl rfl rfl rfl ?_
      refine t_l fL_law_920 rfl rfl rfl rfl ?_
      refine t_s fL_law_921 rfl rfl rfl ?_
      refine k9_iadd fL_law_922 ?_
      obtain ⟨g334, h⟩ := gd_some h
      refine k8_iaX fL_law_923 g334.1 g334.2.1 g334.2.2 ?_
      obtain ⟨V335, v336, e337, h⟩ := bd_some h
      refine kcX9_seed fL_law_924 (f17).1 rfl (q_X9_seed (f17) e337) (by decide) ?_
      refine t_l fL_law_927 rfl rfl rfl rfl ?_
      refine t_l fL_law_928 rfl rfl rfl rfl ?_
      refine t_l fL_law_929 rfl rfl rfl rfl ?_
      refine t_s fL_law_930 rfl rfl rfl ?_
      refine k9_iadd fL_law_931 ?_
      refine k8_iaX fL_law_932 g334.1 g334.2.1 g334.2.2 ?_
      obtain ⟨V338, v339, e340, h⟩ := bd_some h
      refine kcX10_seed fL_law_933 (f18).1 rfl (q_X10_seed (f18) e340) (by decide) ?_
      obtain ⟨g342, h⟩ := gd_some h
      obtain ⟨g343, h⟩ := gd_some h
      refine k9_ic_eq fL_law_936 rfl g342 g343 (fun c341 => ?_) (fun c341 => ?_)
      · replace h := ite_t (c341) h
        replace h := lt_some h
        refine k9_iinc fL_law_1073 rfl (Nat.le_of_ble_eq_true rfl) rfl ?_
        refine k9_goto fL_law_1076 rfl ?_
        cases h
        exact h0 rfl
      · replace h := ite_f (c341) h
        cases h
        exact h25 rfl _ _
    replace h := ite_f c333 h
    by_cases c345 : (((xs x3.toNat).toInt) % 32) = 25
    · replace h := ite_t c345 h
      refine k9_sw 941 fL_law_33 g23 (by rw [c345]; rfl) (by rw [c345]; exact Or.inr (Or.inr rfl)) ?_
      refine t_l fL_law_941 rfl rfl rfl rfl ?_
      refine t_l fL_law_942 rfl rfl rfl rfl ?_
      refine t_l fL_law_943 rfl rfl rfl rfl ?_
      refine t_s fL_law_944 rfl rfl rfl ?_
      refine k9_iadd fL_law_945 ?_
      obtain ⟨g346, h⟩ := gd_some h
      refine k8_iaX fL_law_946 g346.1 g346.2.1 g346.2.2 ?_
      obtain ⟨V347, v348, e349, h⟩ := bd_some h
      refine kcX9_slips fL_law_947 (f17).1 rfl (q_X9_slips (f17) e349) (by decide) ?_
      refine t_l fL_law_950 rfl rfl rfl rfl ?_
      refine t_l fL_law_951 rfl rfl rfl rfl ?_
      refine t_l fL_law_952 rfl rfl rfl rfl ?_
      refine t_s fL_law_953 rfl rfl rfl ?_
      refine k9_iadd fL_law_954 ?_
      refine k8_iaX fL_law_955 g346.1 g346.2.1 g346.2.2 ?_
      obtain ⟨V350, v351, e352, h⟩ := bd_some h
      refine kcX10_slips fL_law_956 (f18).1 rfl (q_X10_slips (f18) e352) (by decide) ?_
      obtain ⟨g354, h⟩ := gd_some h
      obtain ⟨g355, h⟩ := gd_some h
      refine k9_ic_eq fL_law_959 rfl g354 g355 (fun c353 => ?_) (fun c353 => ?_)
      · replace h := ite_t (c353) h
        replace h := lt_some h
        refine k9_iinc fL_law_1073 rfl (Nat.le_of_ble_eq_true rfl) rfl ?_
        refine k9_goto fL_law_1076 rfl ?_
        cases h
        exact h0 rfl
      · replace h := ite_f (c353) h
        cases h
        exact h26 rfl _ _
    replace h := ite_f c345 h
    by_cases c357 : (((xs x3.toNat).toInt) % 32) = 26
    · replace h := ite_t c357 h
      refine k9_sw 964 fL_law_33 g23 (by rw [c357]; rfl) (by rw [c357]; exact Or.inr (Or.inr rfl)) ?_
      refine t_l fL_law_964 rfl rfl rfl rfl ?_
      obtain ⟨V358, v359, e360, h⟩ := bd_some h
      refine kcX9_who fL_law_965 (f17).1 rfl (q_X9_who (f17) e360) (by decide) ?_
      refine t_l fL_law_968 rfl rfl rfl rfl ?_
      obtain ⟨V361, v362, e363, h⟩ := bd_some h
      refine kcX10_who fL_law_969 (f18).1 rfl (q_X10_who (f18) e363) (by decide) ?_
      obtain ⟨g365, h⟩ := gd_some h
      obtain ⟨g366, h⟩ := gd_some h
      refine k9_ic_eq fL_law_972 rfl g365 g366 (fun c364 => ?_) (fun c364 => ?_)
      · replace h := ite_t (c364) h
        replace h := lt_some h
        refine k9_iinc fL_law_1073 rfl (Nat.le_of_ble_eq_true rfl) rfl ?_
        refine k9_goto fL_law_1076 rfl ?_
        cases h
        exact h0 rfl
      · replace h := ite_f (c364) h
        cases h
        exact h27 rfl _ _
    replace h := ite_f c357 h
    by_cases c368 : (((xs x3.toNat).toInt) % 32) = 27
    · replace h := ite_t c368 h
      refine k9_sw 977 fL_law_33 g23 (by rw [c368]; rfl) (by rw [c368]; exact Or.inr (Or.inr rfl)) ?_
      refine t_l fL_law_977 rfl rfl rfl rfl ?_
      refine t_l fL_law_978 rfl rfl rfl rfl ?_
      refine t_l fL_law_979 rfl rfl rfl rfl ?_
      refine t_s fL_law_980 rfl rfl rfl ?_
      refine k9_iadd fL_law_981 ?_
      obtain ⟨g369, h⟩ := gd_some h
      refine k8_iaX fL_law_982 g369.1 g369.2.1 g369.2.2 ?_
      obtain ⟨W370, v371, e372, h⟩ := bd_some h
      refine kcX9_ask fL_law_983 (f17).1 rfl (q_X9_ask e372) (by decide) ?_
      obtain ⟨⟨f373, f374⟩, h⟩ := gd_some h
      refine t_l fL_law_986 rfl rfl rfl rfl ?_
      refine t_l fL_law_987 rfl rfl rfl rfl ?_
      refine t_l fL_law_988 rfl rfl rfl rfl ?_
      refine t_s fL_law_989 rfl rfl rfl ?_
      refine k9_iadd fL_law_990 ?_
      refine k8_iaX fL_law_991 g369.1 g369.2.1 g369.2.2 ?_
      obtain ⟨V375, v376, e377, h⟩ := bd_some h
      refine kcX10_ask fL_law_992 (f374).1 rfl (q_X10_ask (f374) e377) (by decide) ?_
      obtain ⟨g378, h⟩ := gd_some h
      obtain ⟨g379, h⟩ := gd_some h
      refine k9_lcmp fL_law_995 g378 g379 ?_
      refine k9_if_eq fL_law_996 rfl (cmp_rg _ _) (fun c380 => ?_) (fun c380 => ?_)
      · replace h := ite_t (cmp_eq.mp c380) h
        replace h := lt_some h
        refine k9_iinc fL_law_1073 rfl (Nat.le_of_ble_eq_true rfl) rfl ?_
        refine k9_goto fL_law_1076 rfl ?_
        cases h
        exact h0 rfl
      · replace h := ite_f (fun q => c380 (cmp_eq.mpr q)) h
        cases h
        exact h28 rfl _ _
    replace h := ite_f c368 h
    by_cases c382 : (((xs x3.toNat).toInt) % 32) = 28
    · replace h := ite_t c382 h
      refine k9_sw 1001 fL_law_33 g23 (by rw [c382]; rfl) (by rw [c382]; exact Or.inr (Or.inr rfl)) ?_
      refine t_l fL_law_1001 rfl rfl rfl rfl ?_
      obtain ⟨V383, v384, e385, h⟩ := bd_some h
      refine kcX9_image fL_law_1002 (f17).1 rfl (q_X9_image (f17) e385) (by decide) ?_
      refine t_l fL_law_1005 rfl rfl rfl rfl ?_
      obtain ⟨V386, v387, e388, h⟩ := bd_some h
      refine kcX10_image fL_law_1006 (f18).1 rfl (q_X10_image (f18) e388) (by decide) ?_
      obtain ⟨g390, h⟩ := gd_some h
      obtain ⟨g391, h⟩ := gd_some h
      refine k9_ic_eq fL_law_1009 rfl g390 g391 (fun c389 => ?_) (fun c389 => ?_)
      · replace h := ite_t (c389) h
        replace h := lt_some h
        refine k9_iinc fL_law_1073 rfl (Nat.le_of_ble_eq_true rfl) rfl ?_
        refine k9_goto fL_law_1076 rfl ?_
        cases h
        exact h0 rfl
      · replace h := ite_f (c389) h
        cases h
        exact h29 rfl _ _
    replace h := ite_f c382 h
    by_cases c393 : (((xs x3.toNat).toInt) % 32) = 29
    · replace h := ite_t c393 h
      refine k9_sw 1014 fL_law_33 g23 (by rw [c393]; rfl) (by rw [c393]; exact Or.inr (Or.inr rfl)) ?_
      refine t_l fL_law_1014 rfl rfl rfl rfl ?_
      refine t_l fL_law_1015 rfl rfl rfl rfl ?_
      refine t_l fL_law_1016 rfl rfl rfl rfl ?_
      refine t_s fL_law_1017 rfl rfl rfl ?_
      refine k9_iadd fL_law_1018 ?_
      obtain ⟨g394, h⟩ := gd_some h
      refine k8_iaX fL_law_1019 g394.1 g394.2.1 g394.2.2 ?_
      obtain ⟨V395, v396, e397, h⟩ := bd_some h
      refine kcX9_octet fL_law_1020 (f17).1 rfl (q_X9_octet (f17) e397) (by decide) ?_
      refine t_l fL_law_1023 rfl rfl rfl rfl ?_
      refine t_l fL_law_1024 rfl rfl rfl rfl ?_
      refine t_l fL_law_1025 rfl rfl rfl rfl ?_
      refine t_s fL_law_1026 rfl rfl rfl ?_
      refine k9_iadd fL_law_1027 ?_
      refine k8_iaX fL_law_1028 g394.1 g394.2.1 g394.2.2 ?_
      obtain ⟨V398, v399, e400, h⟩ := bd_some h
      refine kcX10_octet fL_law_1029 (f18).1 rfl (q_X10_octet (f18) e400) (by decide) ?_
      obtain ⟨g402, h⟩ := gd_some h
      obtain ⟨g403, h⟩ := gd_some h
      refine k9_ic_eq fL_law_1032 rfl g402 g403 (fun c401 => ?_) (fun c401 => ?_)
      · replace h := ite_t (c401) h
        replace h := lt_some h
        refine k9_iinc fL_law_1073 rfl (Nat.le_of_ble_eq_true rfl) rfl ?_
        refine k9_goto fL_law_1076 rfl ?_
        cases h
        exact h0 rfl
      · replace h := ite_f (c401) h
        cases h
        exact h30 rfl _ _
    replace h := ite_f c393 h
    by_cases c405 : (((xs x3.toNat).toInt) % 32) = 30
    · replace h := ite_t c405 h
      refine k9_sw 1037 fL_law_33 g23 (by rw [c405]; rfl) (by rw [c405]; exact Or.inr (Or.inr rfl)) ?_
      refine t_l fL_law_1037 rfl rfl rfl rfl ?_
      obtain ⟨V406, v407, e408, h⟩ := bd_some h
      refine kcX9_on fL_law_1038 (f17).1 rfl (q_X9_on (f17) e408) (by decide) ?_
      refine t_l fL_law_1041 rfl rfl rfl rfl ?_
      obtain ⟨V409, v410, e411, h⟩ := bd_some h
      refine kcX10_on fL_law_1042 (f18).1 rfl (q_X10_on (f18) e411) (by decide) ?_
      obtain ⟨g413, h⟩ := gd_some h
      obtain ⟨g414, h⟩ := gd_some h
      refine k9_ic_eq fL_law_1045 rfl g413 g414 (fun c412 => ?_) (fun c412 => ?_)
      · replace h := ite_t (c412) h
        replace h := lt_some h
        refine k9_iinc fL_law_1073 rfl (Nat.le_of_ble_eq_true rfl) rfl ?_
        refine k9_goto fL_law_1076 rfl ?_
        cases h
        exact h0 rfl
      · replace h := ite_f (c412) h
        cases h
        exact h31 rfl _ _
    replace h := ite_f c405 h
    by_cases c416 : (((xs x3.toNat).toInt) % 32) = 31
    · replace h := ite_t c416 h
      refine k9_sw 1050 fL_law_33 g23 (by rw [c416]; rfl) (by rw [c416]; exact Or.inr (Or.inr rfl)) ?_
      refine t_l fL_law_1050 rfl rfl rfl rfl ?_
      refine t_l fL_law_1051 rfl rfl rfl rfl ?_
      refine t_l fL_law_1052 rfl rfl rfl rfl ?_
      refine t_s fL_law_1053 rfl rfl rfl ?_
      refine k9_iadd fL_law_1054 ?_
      obtain ⟨g417, h⟩ := gd_some h
      refine k8_iaX fL_law_1055 g417.1 g417.2.1 g417.2.2 ?_
      obtain ⟨V418, v419, e420, h⟩ := bd_some h
      refine kcX9_status fL_law_1056 (f17).1 rfl (q_X9_status (f17) e420) (by decide) ?_
      refine t_l fL_law_1059 rfl rfl rfl rfl ?_
      refine t_l fL_law_1060 rfl rfl rfl rfl ?_
      refine t_l fL_law_1061 rfl rfl rfl rfl ?_
      refine t_s fL_law_1062 rfl rfl rfl ?_
      refine k9_iadd fL_law_1063 ?_
      refine k8_iaX fL_law_1064 g417.1 g417.2.1 g417.2.2 ?_
      obtain ⟨V421, v422, e423, h⟩ := bd_some h
      refine kcX10_status fL_law_1065 (f18).1 rfl (q_X10_status (f18) e423) (by decide) ?_
      obtain ⟨g425, h⟩ := gd_some h
      obtain ⟨g426, h⟩ := gd_some h
      refine k9_ic_eq fL_law_1068 rfl g425 g426 (fun c424 => ?_) (fun c424 => ?_)
      · replace h := ite_t (c424) h
        replace h := lt_some h
        refine k9_iinc fL_law_1073 rfl (Nat.le_of_ble_eq_true rfl) rfl ?_
        refine k9_goto fL_law_1076 rfl ?_
        cases h
        exact h0 rfl
      · replace h := ite_f (c424) h
        cases h
        exact h32 rfl _ _
    replace h := ite_f c416 h
    have hd33 : (((xs x3.toNat).toInt) % 32) < 0 ∨ 31 < (((xs x3.toNat).toInt) % 32) := by omega
    refine k9_sw 1073 fL_law_33 g23 (by rw [if_pos hd33]; rfl) (by omega) ?_
    replace h := lt_some h
    refine k9_iinc fL_law_1073 rfl (Nat.le_of_ble_eq_true rfl) rfl ?_
    refine k9_goto fL_law_1076 rfl ?_
    cases h
    exact h0 rfl

theorem tl_L_law_18 {L0 : Nat} {xs : Nat → Int32} {r1 r2 : Nat} {x3 : Int} {W W' : mW} {fu : Nat} {q : Nat × Int} {Q : Nat → Nat → mG → mV → Option Value → Prop} (k1 : q.1 = 1 → ∀ j1 j2 : Option Value, T (some (L0, xs)) (98) 303 237 [some (.retAddr 0), j1, j2, some (.int (iI q.2))] [] W'.1 W'.2.1 W'.2.2.1 W'.2.2.2 Q) (k2 : q.1 = 2 → ∀ j1 j2 : Option Value, T (some (L0, xs)) (98) 303 260 [some (.retAddr 0), j1, j2, some (.int (iI q.2))] [] W'.1 W'.2.1 W'.2.2.1 W'.2.2.2 Q) (k3 : q.1 = 3 → ∀ j1 j2 : Option Value, T (some (L0, xs)) (98) 303 273 [some (.retAddr 0), j1, j2, some (.int (iI q.2))] [] W'.1 W'.2.1 W'.2.2.1 W'.2.2.2 Q) (k4 : q.1 = 4 → ∀ j1 j2 : Option Value, T (some (L0, xs)) (98) 303 296 [some (.retAddr 0), j1, j2, some (.int (iI q.2))] [] W'.1 W'.2.1 W'.2.2.1 W'.2.2.2 Q) (k5 : q.1 = 5 → ∀ j1 j2 : Option Value, T (some (L0, xs)) (98) 303 319 [some (.retAddr 0), j1, j2, some (.int (iI q.2))] [] W'.1 W'.2.1 W'.2.2.1 W'.2.2.2 Q) (k6 : q.1 = 6 → ∀ j1 j2 : Option Value, T (some (L0, xs)) (98) 303 362 [some (.retAddr 0), j1, j2, some (.int (iI q.2))] [] W'.1 W'.2.1 W'.2.2.1 W'.2.2.2 Q) (k7 : q.1 = 7 → ∀ j1 j2 : Option Value, T (some (L0, xs)) (98) 303 395 [some (.retAddr 0), j1, j2, some (.int (iI q.2))] [] W'.1 W'.2.1 W'.2.2.1 W'.2.2.2 Q) (k8 : q.1 = 8 → ∀ j1 j2 : Option Value, T (some (L0, xs)) (98) 303 428 [some (.retAddr 0), j1, j2, some (.int (iI q.2))] [] W'.1 W'.2.1 W'.2.2.1 W'.2.2.2 Q) (k9 : q.1 = 9 → ∀ j1 j2 : Option Value, T (some (L0, xs)) (98) 303 481 [some (.retAddr 0), j1, j2, some (.int (iI q.2))] [] W'.1 W'.2.1 W'.2.2.1 W'.2.2.2 Q) (k10 : q.1 = 10 → ∀ j1 j2 : Option Value, T (some (L0, xs)) (98) 303 514 [some (.retAddr 0), j1, j2, some (.int (iI q.2))] [] W'.1 W'.2.1 W'.2.2.1 W'.2.2.2 Q) (k11 : q.1 = 11 → ∀ j1 j2 : Option Value, T (some (L0, xs)) (98) 303 547 [some (.retAddr 0), j1, j2, some (.int (iI q.2))] [] W'.1 W'.2.1 W'.2.2.1 W'.2.2.2 Q) (k12 : q.1 = 12 → ∀ j1 j2 : Option Value, T (some (L0, xs)) (98) 303 580 [some (.retAddr 0), j1, j2, some (.int (iI q.2))] [] W'.1 W'.2.1 W'.2.2.1 W'.2.2.2 Q) (k13 : q.1 = 13 → ∀ j1 j2 : Option Value, T (some (L0, xs)) (98) 303 603 [some (.retAddr 0), j1, j2, some (.int (iI q.2))] [] W'.1 W'.2.1 W'.2.2.1 W'.2.2.2 Q) (k14 : q.1 = 14 → ∀ j1 j2 : Option Value, T (some (L0, xs)) (98) 303 636 [some (.retAddr 0), j1, j2, some (.int (iI q.2))] [] W'.1 W'.2.1 W'.2.2.1 W'.2.2.2 Q) (k15 : q.1 = 15 → ∀ j1 j2 : Option Value, T (some (L0, xs)) (98) 303 669 [some (.retAddr 0), j1, j2, some (.int (iI q.2))] [] W'.1 W'.2.1 W'.2.2.1 W'.2.2.2 Q) (k16 : q.1 = 16 → ∀ j1 j2 : Option Value, T (some (L0, xs)) (98) 303 692 [some (.retAddr 0), j1, j2, some (.int (iI q.2))] [] W'.1 W'.2.1 W'.2.2.1 W'.2.2.2 Q) (k17 : q.1 = 17 → ∀ j1 j2 : Option Value, T (some (L0, xs)) (98) 303 715 [some (.retAddr 0), j1, j2, some (.int (iI q.2))] [] W'.1 W'.2.1 W'.2.2.1 W'.2.2.2 Q) (k18 : q.1 = 18 → ∀ j1 j2 : Option Value, T (some (L0, xs)) (98) 303 758 [some (.retAddr 0), j1, j2, some (.int (iI q.2))] [] W'.1 W'.2.1 W'.2.2.1 W'.2.2.2 Q) (k19 : q.1 = 19 → ∀ j1 j2 : Option Value, T (some (L0, xs)) (98) 303 781 [some (.retAddr 0), j1, j2, some (.int (iI q.2))] [] W'.1 W'.2.1 W'.2.2.1 W'.2.2.2 Q) (k20 : q.1 = 20 → ∀ j1 j2 : Option Value, T (some (L0, xs)) (98) 303 804 [some (.retAddr 0), j1, j2, some (.int (iI q.2))] [] W'.1 W'.2.1 W'.2.2.1 W'.2.2.2 Q) (k21 : q.1 = 21 → ∀ j1 j2 : Option Value, T (some (L0, xs)) (98) 303 837 [some (.retAddr 0), j1, j2, some (.int (iI q.2))] [] W'.1 W'.2.1 W'.2.2.1 W'.2.2.2 Q) (k22 : q.1 = 22 → ∀ j1 j2 : Option Value, T (some (L0, xs)) (98) 303 880 [some (.retAddr 0), j1, j2, some (.int (iI q.2))] [] W'.1 W'.2.1 W'.2.2.1 W'.2.2.2 Q) (k23 : q.1 = 23 → ∀ j1 j2 : Option Value, T (some (L0, xs)) (98) 303 903 [some (.retAddr 0), j1, j2, some (.int (iI q.2))] [] W'.1 W'.2.1 W'.2.2.1 W'.2.2.2 Q) (k24 : q.1 = 24 → ∀ j1 j2 : Option Value, T (some (L0, xs)) (98) 303 916 [some (.retAddr 0), j1, j2, some (.int (iI q.2))] [] W'.1 W'.2.1 W'.2.2.1 W'.2.2.2 Q) (k25 : q.1 = 25 → ∀ j1 j2 : Option Value, T (some (L0, xs)) (98) 303 939 [some (.retAddr 0), j1, j2, some (.int (iI q.2))] [] W'.1 W'.2.1 W'.2.2.1 W'.2.2.2 Q) (k26 : q.1 = 26 → ∀ j1 j2 : Option Value, T (some (L0, xs)) (98) 303 962 [some (.retAddr 0), j1, j2, some (.int (iI q.2))] [] W'.1 W'.2.1 W'.2.2.1 W'.2.2.2 Q) (k27 : q.1 = 27 → ∀ j1 j2 : Option Value, T (some (L0, xs)) (98) 303 975 [some (.retAddr 0), j1, j2, some (.int (iI q.2))] [] W'.1 W'.2.1 W'.2.2.1 W'.2.2.2 Q) (k28 : q.1 = 28 → ∀ j1 j2 : Option Value, T (some (L0, xs)) (98) 303 999 [some (.retAddr 0), j1, j2, some (.int (iI q.2))] [] W'.1 W'.2.1 W'.2.2.1 W'.2.2.2 Q) (k29 : q.1 = 29 → ∀ j1 j2 : Option Value, T (some (L0, xs)) (98) 303 1012 [some (.retAddr 0), j1, j2, some (.int (iI q.2))] [] W'.1 W'.2.1 W'.2.2.1 W'.2.2.2 Q) (k30 : q.1 = 30 → ∀ j1 j2 : Option Value, T (some (L0, xs)) (98) 303 1035 [some (.retAddr 0), j1, j2, some (.int (iI q.2))] [] W'.1 W'.2.1 W'.2.2.1 W'.2.2.2 Q) (k31 : q.1 = 31 → ∀ j1 j2 : Option Value, T (some (L0, xs)) (98) 303 1048 [some (.retAddr 0), j1, j2, some (.int (iI q.2))] [] W'.1 W'.2.1 W'.2.2.1 W'.2.2.2 Q) (k32 : q.1 = 32 → ∀ j1 j2 : Option Value, T (some (L0, xs)) (98) 303 1071 [some (.retAddr 0), j1, j2, some (.int (iI q.2))] [] W'.1 W'.2.1 W'.2.2.1 W'.2.2.2 Q) (k33 : q.1 = 33 → ∀ j1 j2 : Option Value, T (some (L0, xs)) (98) 303 1079 [some (.retAddr 0), j1, j2, some (.int (iI q.2))] [] W'.1 W'.2.1 W'.2.2.1 W'.2.2.2 Q) (h : lp (fun (s : Int) (Z : mW) => B_L_law_18 L0 xs r1 r2 s Z) fu x3 W = some (W', q)) : T (some (L0, xs)) (98) 303 18 [some (.retAddr 0), some (.ref r1), some (.ref r2), some (.int (iI x3))] [] W.1 W.2.1 W.2.2.1 W.2.2.2 Q :=
  lp_go (P0 := fun s W => T (some (L0, xs)) (98) 303 18 [some (.retAddr 0), some (.ref r1), some (.ref r2), some (.int (iI s))] [] W.1 W.2.1 W.2.2.1 W.2.2.2 Q) (PE := fun t s W => (t = 1 → ∀ j1 j2 : Option Value, T (some (L0, xs)) (98) 303 237 [some (.retAddr 0), j1, j2, some (.int (iI s))] [] W.1 W.2.1 W.2.2.1 W.2.2.2 Q) ∧ (t = 2 → ∀ j1 j2 : Option Value, T (some (L0, xs)) (98) 303 260 [some (.retAddr 0), j1, j2, some (.int (iI s))] [] W.1 W.2.1 W.2.2.1 W.2.2.2 Q) ∧ (t = 3 → ∀ j1 j2 : Option Value, T (some (L0, xs)) (98) 303 273 [some (.retAddr 0), j1, j2, some (.int (iI s))] [] W.1 W.2.1 W.2.2.1 W.2.2.2 Q) ∧ (t = 4 → ∀ j1 j2 : Option Value, T (some (L0, xs)) (98) 303 296 [some (.retAddr 0), j1, j2, some (.int (iI s))] [] W.1 W.2.1 W.2.2.1 W.2.2.2 Q) ∧ (t = 5 → ∀ j1 j2 : Option Value, T (some (L0, xs)) (98) 303 319 [some (.retAddr 0), j1, j2, some (.int (iI s))] [] W.1 W.2.1 W.2.2.1 W.2.2.2 Q) ∧ (t = 6 → ∀ j1 j2 : Option Value, T (some (L0, xs)) (98) 303 362 [some (.retAddr 0), j1, j2, some (.int (iI s))] [] W.1 W.2.1 W.2.2.1 W.2.2.2 Q) ∧ (t = 7 → ∀ j1 j2 : Option Value, T (some (L0, xs)) (98) 303 395 [some (.retAddr 0), j1, j2, some (.int (iI s))] [] W.1 W.2.1 W.2.2.1 W.2.2.2 Q) ∧ (t = 8 → ∀ j1 j2 : Option Value, T (some (L0, xs)) (98) 303 428 [some (.retAddr 0), j1, j2, some (.int (iI s))] [] W.1 W.2.1 W.2.2.1 W.2.2.2 Q) ∧ (t = 9 → ∀ j1 j2 : Option Value, T (some (L0, xs)) (98) 303 481 [some (.retAddr 0), j1, j2, some (.int (iI s))] [] W.1 W.2.1 W.2.2.1 W.2.2.2 Q) ∧ (t = 10 → ∀ j1 j2 : Option Value, T (some (L0, xs)) (98) 303 514 [some (.retAddr 0), j1, j2, some (.int (iI s))] [] W.1 W.2.1 W.2.2.1 W.2.2.2 Q) ∧ (t = 11 → ∀ j1 j2 : Option Value, T (some (L0, xs)) (98) 303 547 [some (.retAddr 0), j1, j2, some (.int (iI s))] [] W.1 W.2.1 W.2.2.1 W.2.2.2 Q) ∧ (t = 12 → ∀ j1 j2 : Option Value, T (some (L0, xs)) (98) 303 580 [some (.retAddr 0), j1, j2, some (.int (iI s))] [] W.1 W.2.1 W.2.2.1 W.2.2.2 Q) ∧ (t = 13 → ∀ j1 j2 : Option Value, T (some (L0, xs)) (98) 303 603 [some (.retAddr 0), j1, j2, some (.int (iI s))] [] W.1 W.2.1 W.2.2.1 W.2.2.2 Q) ∧ (t = 14 → ∀ j1 j2 : Option Value, T (some (L0, xs)) (98) 303 636 [some (.retAddr 0), j1, j2, some (.int (iI s))] [] W.1 W.2.1 W.2.2.1 W.2.2.2 Q) ∧ (t = 15 → ∀ j1 j2 : Option Value, T (some (L0, xs)) (98) 303 669 [some (.retAddr 0), j1, j2, some (.int (iI s))] [] W.1 W.2.1 W.2.2.1 W.2.2.2 Q) ∧ (t = 16 → ∀ j1 j2 : Option Value, T (some (L0, xs)) (98) 303 692 [some (.retAddr 0), j1, j2, some (.int (iI s))] [] W.1 W.2.1 W.2.2.1 W.2.2.2 Q) ∧ (t = 17 → ∀ j1 j2 : Option Value, T (some (L0, xs)) (98) 303 715 [some (.retAddr 0), j1, j2, some (.int (iI s))] [] W.1 W.2.1 W.2.2.1 W.2.2.2 Q) ∧ (t = 18 → ∀ j1 j2 : Option Value, T (some (L0, xs)) (98) 303 758 [some (.retAddr 0), j1, j2, some (.int (iI s))] [] W.1 W.2.1 W.2.2.1 W.2.2.2 Q) ∧ (t = 19 → ∀ j1 j2 : Option Value, T (some (L0, xs)) (98) 303 781 [some (.retAddr 0), j1, j2, some (.int (iI s))] [] W.1 W.2.1 W.2.2.1 W.2.2.2 Q) ∧ (t = 20 → ∀ j1 j2 : Option Value, T (some (L0, xs)) (98) 303 804 [some (.retAddr 0), j1, j2, some (.int (iI s))] [] W.1 W.2.1 W.2.2.1 W.2.2.2 Q) ∧ (t = 21 → ∀ j1 j2 : Option Value, T (some (L0, xs)) (98) 303 837 [some (.retAddr 0), j1, j2, some (.int (iI s))] [] W.1 W.2.1 W.2.2.1 W.2.2.2 Q) ∧ (t = 22 → ∀ j1 j2 : Option Value, T (some (L0, xs)) (98) 303 880 [some (.retAddr 0), j1, j2, some (.int (iI s))] [] W.1 W.2.1 W.2.2.1 W.2.2.2 Q) ∧ (t = 23 → ∀ j1 j2 : Option Value, T (some (L0, xs)) (98) 303 903 [some (.retAddr 0), j1, j2, some (.int (iI s))] [] W.1 W.2.1 W.2.2.1 W.2.2.2 Q) ∧ (t = 24 → ∀ j1 j2 : Option Value, T (some (L0, xs)) (98) 303 916 [some (.retAddr 0), j1, j2, some (.int (iI s))] [] W.1 W.2.1 W.2.2.1 W.2.2.2 Q) ∧ (t = 25 → ∀ j1 j2 : Option Value, T (some (L0, xs)) (98) 303 939 [some (.retAddr 0), j1, j2, some (.int (iI s))] [] W.1 W.2.1 W.2.2.1 W.2.2.2 Q) ∧ (t = 26 → ∀ j1 j2 : Option Value, T (some (L0, xs)) (98) 303 962 [some (.retAddr 0), j1, j2, some (.int (iI s))] [] W.1 W.2.1 W.2.2.1 W.2.2.2 Q) ∧ (t = 27 → ∀ j1 j2 : Option Value, T (some (L0, xs)) (98) 303 975 [some (.retAddr 0), j1, j2, some (.int (iI s))] [] W.1 W.2.1 W.2.2.1 W.2.2.2 Q) ∧ (t = 28 → ∀ j1 j2 : Option Value, T (some (L0, xs)) (98) 303 999 [some (.retAddr 0), j1, j2, some (.int (iI s))] [] W.1 W.2.1 W.2.2.1 W.2.2.2 Q) ∧ (t = 29 → ∀ j1 j2 : Option Value, T (some (L0, xs)) (98) 303 1012 [some (.retAddr 0), j1, j2, some (.int (iI s))] [] W.1 W.2.1 W.2.2.1 W.2.2.2 Q) ∧ (t = 30 → ∀ j1 j2 : Option Value, T (some (L0, xs)) (98) 303 1035 [some (.retAddr 0), j1, j2, some (.int (iI s))] [] W.1 W.2.1 W.2.2.1 W.2.2.2 Q) ∧ (t = 31 → ∀ j1 j2 : Option Value, T (some (L0, xs)) (98) 303 1048 [some (.retAddr 0), j1, j2, some (.int (iI s))] [] W.1 W.2.1 W.2.2.1 W.2.2.2 Q) ∧ (t = 32 → ∀ j1 j2 : Option Value, T (some (L0, xs)) (98) 303 1071 [some (.retAddr 0), j1, j2, some (.int (iI s))] [] W.1 W.2.1 W.2.2.1 W.2.2.2 Q) ∧ (t = 33 → ∀ j1 j2 : Option Value, T (some (L0, xs)) (98) 303 1079 [some (.retAddr 0), j1, j2, some (.int (iI s))] [] W.1 W.2.1 W.2.2.1 W.2.2.2 Q)) (fun s W W' q hb h0 h1 => tb_L_law_18 h0 (fun e => (h1 (by omega)).1 e) (fun e => (h1 (by omega)).2.1 e) (fun e => (h1 (by omega)).2.2.1 e) (fun e => (h1 (by omega)).2.2.2.1 e) (fun e => (h1 (by omega)).2.2.2.2.1 e) (fun e => (h1 (by omega)).2.2.2.2.2.1 e) (fun e => (h1 (by omega)).2.2.2.2.2.2.1 e) (fun e => (h1 (by omega)).2.2.2.2.2.2.2.1 e) (fun e => (h1 (by omega)).2.2.2.2.2.2.2.2.1 e) (fun e => (h1 (by omega)).2.2.2.2.2.2.2.2.2.1 e) (fun e => (h1 (by omega)).2.2.2.2.2.2.2.2.2.2.1 e) (fun e => (h1 (by omega)).2.2.2.2.2.2.2.2.2.2.2.1 e) (fun e => (h1 (by omega)).2.2.2.2.2.2.2.2.2.2.2.2.1 e) (fun e => (h1 (by omega)).2.2.2.2.2.2.2.2.2.2.2.2.2.1 e) (fun e => (h1 (by omega)).2.2.2.2.2.2.2.2.2.2.2.2.2.2.1 e) (fun e => (h1 (by omega)).2.2.2.2.2.2.2.2.2.2.2.2.2.2.2.1 e) (fun e => (h1 (by omega)).2.2.2.2.2.2.2.2.2.2.2.2.2.2.2.2.1 e) (fun e => (h1 (by omega)).2.2.2.2.2.2.2.2.2.2.2.2.2.2.2.2.2.1 e) (fun e => (h1 (by omega)).2.2.2.2.2.2.2.2.2.2.2.2.2.2.2.2.2.2.1 e) (fun e => (h1 (by omega)).2.2.2.2.2.2.2.2.2.2.2.2.2.2.2.2.2.2.2.1 e) (fun e => (h1 (by omega)).2.2.2.2.2.2.2.2.2.2.2.2.2.2.2.2.2.2.2.2.1 e) (fun e => (h1 (by omega)).2.2.2.2.2.2.2.2.2.2.2.2.2.2.2.2.2.2.2.2.2.1 e) (fun e => (h1 (by omega)).2.2.2.2.2.2.2.2.2.2.2.2.2.2.2.2.2.2.2.2.2.2.1 e) (fun e => (h1 (by omega)).2.2.2.2.2.2.2.2.2.2.2.2.2.2.2.2.2.2.2.2.2.2.2.1 e) (fun e => (h1 (by omega)).2.2.2.2.2.2.2.2.2.2.2.2.2.2.2.2.2.2.2.2.2.2.2.2.1 e) (fun e => (h1 (by omega)).2.2.2.2.2.2.2.2.2.2.2.2.2.2.2.2.2.2.2.2.2.2.2.2.2.1 e) (fun e => (h1 (by omega)).2.2.2.2.2.2.2.2.2.2.2.2.2.2.2.2.2.2.2.2.2.2.2.2.2.2.1 e) (fun e => (h1 (by omega)).2.2.2.2.2.2.2.2.2.2.2.2.2.2.2.2.2.2.2.2.2.2.2.2.2.2.2.1 e) (fun e => (h1 (by omega)).2.2.2.2.2.2.2.2.2.2.2.2.2.2.2.2.2.2.2.2.2.2.2.2.2.2.2.2.1 e) (fun e => (h1 (by omega)).2.2.2.2.2.2.2.2.2.2.2.2.2.2.2.2.2.2.2.2.2.2.2.2.2.2.2.2.2.1 e) (fun e => (h1 (by omega)).2.2.2.2.2.2.2.2.2.2.2.2.2.2.2.2.2.2.2.2.2.2.2.2.2.2.2.2.2.2.1 e) (fun e => (h1 (by omega)).2.2.2.2.2.2.2.2.2.2.2.2.2.2.2.2.2.2.2.2.2.2.2.2.2.2.2.2.2.2.2.1 e) (fun e => (h1 (by omega)).2.2.2.2.2.2.2.2.2.2.2.2.2.2.2.2.2.2.2.2.2.2.2.2.2.2.2.2.2.2.2.2 e) hb) fu x3 W W' q h ⟨k1, k2, k3, k4, k5, k6, k7, k8, k9, k10, k11, k12, k13, k14, k15, k16, k17, k18, k19, k20, k21, k22, k23, k24, k25, k26, k27, k28, k29, k30, k31, k32, k33⟩

theorem q_L_law {L0 : Nat} {xs : Nat → Int32} {W W' : mW} {v : Int} (h : F_L_law L0 xs W = some (W', v)) : Rn (some (L0, xs)) (98) 303 [.retAddr 0] W.1 W.2.1 W.2.2.1 W.2.2.2 W'.1 W'.2.1 W'.2.2.1 W'.2.2.2 (some (.int (iI v))) := by
  refine qwi_toR (v := v) (L := [some (.retAddr 0), none, none, none]) rfl ?_
  unfold F_L_law at h
  refine k9_new fL_law_0 (by decide) ?_
  replace h := lt_some h
  replace h := lt_some h
  obtain ⟨f3, h⟩ := gd_some h
  refine t_s fL_law_3 rfl rfl rfl ?_
  obtain ⟨W4, v5, e6, h⟩ := bd_some h
  refine kcX9_init fL_law_4 rfl (q_X9_init e6) (by decide) ?_
  obtain ⟨f7, h⟩ := gd_some h
  refine t_l fL_law_7 rfl rfl rfl rfl ?_
  refine k9_new fL_law_8 (by decide) ?_
  replace h := lt_some h
  replace h := lt_some h
  obtain ⟨⟨f10, f11⟩, h⟩ := gd_some h
  refine t_s fL_law_11 rfl rfl rfl ?_
  obtain ⟨W12, v13, e14, h⟩ := bd_some h
  refine kcX10_init fL_law_12 rfl (q_X10_init e14) (by decide) ?_
  obtain ⟨⟨f15, f16⟩, h⟩ := gd_some h
  refine t_l fL_law_15 rfl rfl rfl rfl ?_
  refine t_s fL_law_16 rfl rfl rfl ?_
  refine t_l fL_law_17 rfl rfl rfl rfl ?_
  obtain ⟨W429, u430, e431, h⟩ := bd_some h
  refine tl_L_law_18 (fun e432 j1 j2 => ?_) (fun e432 j1 j2 => ?_) (fun e432 j1 j2 => ?_) (fun e432 j1 j2 => ?_) (fun e432 j1 j2 => ?_) (fun e432 j1 j2 => ?_) (fun e432 j1 j2 => ?_) (fun e432 j1 j2 => ?_) (fun e432 j1 j2 => ?_) (fun e432 j1 j2 => ?_) (fun e432 j1 j2 => ?_) (fun e432 j1 j2 => ?_) (fun e432 j1 j2 => ?_) (fun e432 j1 j2 => ?_) (fun e432 j1 j2 => ?_) (fun e432 j1 j2 => ?_) (fun e432 j1 j2 => ?_) (fun e432 j1 j2 => ?_) (fun e432 j1 j2 => ?_) (fun e432 j1 j2 => ?_) (fun e432 j1 j2 => ?_) (fun e432 j1 j2 => ?_) (fun e432 j1 j2 => ?_) (fun e432 j1 j2 => ?_) (fun e432 j1 j2 => ?_) (fun e432 j1 j2 => ?_) (fun e432 j1 j2 => ?_) (fun e432 j1 j2 => ?_) (fun e432 j1 j2 => ?_) (fun e432 j1 j2 => ?_) (fun e432 j1 j2 => ?_) (fun e432 j1 j2 => ?_) (fun e432 j1 j2 => ?_) e431
  · replace h := ite_t e432 h
    refine t_s fL_law_237 rfl rfl rfl ?_
    refine t_ret fL_law_238 (rL_law _ (by decide)) ?_
    exact qfw_i h
  · replace h := ite_f (by omega) h; replace h := ite_t e432 h
    refine t_s fL_law_260 rfl rfl rfl ?_
    refine t_ret fL_law_261 (rL_law _ (by decide)) ?_
    exact qfw_i h
  · replace h := ite_f (by omega) h; replace h := ite_f (by omega) h; replace h := ite_t e432 h
    refine t_s fL_law_273 rfl rfl rfl ?_
    refine t_ret fL_law_274 (rL_law _ (by decide)) ?_
    exact qfw_i h
  · replace h := ite_f (by omega) h; replace h := ite_f (by omega) h; replace h := ite_f (by omega) h; replace h := ite_t e432 h
    refine t_s fL_law_296 rfl rfl rfl ?_
    refine t_ret fL_law_297 (rL_law _ (by decide)) ?_
    exact qfw_i h
  · replace h := ite_f (by omega) h; replace h := ite_f (by omega) h; replace h := ite_f (by omega) h; replace h := ite_f (by omega) h; replace h := ite_t e432 h
    refine t_s fL_law_319 rfl rfl rfl ?_
    refine t_ret fL_law_320 (rL_law _ (by decide)) ?_
    exact qfw_i h
  · replace h := ite_f (by omega) h; replace h := ite_f (by omega) h; replace h := ite_f (by omega) h; replace h := ite_f (by omega) h; replace h := ite_f (by omega) h; replace h := ite_t e432 h
    refine t_s fL_law_362 rfl rfl rfl ?_
    refine t_ret fL_law_363 (rL_law _ (by decide)) ?_
    exact qfw_i h
  · replace h := ite_f (by omega) h; replace h := ite_f (by omega) h; replace h := ite_f (by omega) h; replace h := ite_f (by omega) h; replace h := ite_f (by omega) h; replace h := ite_f (by omega) h; replace h := ite_t e432 h
    refine t_s fL_law_395 rfl rfl rfl ?_
    refine t_ret fL_law_396 (rL_law _ (by decide)) ?_
    exact qfw_i h
  · replace h := ite_f (by omega) h; replace h := ite_f (by omega) h; replace h := ite_f (by omega) h; replace h := ite_f (by omega) h; replace h := ite_f (by omega) h; replace h := ite_f (by omega) h; replace h := ite_f (by omega) h; replace h := ite_t e432 h
    refine t_s fL_law_428 rfl rfl rfl ?_
    refine t_ret fL_law_429 (rL_law _ (by decide)) ?_
    exact qfw_i h
  · replace h := ite_f (by omega) h; replace h := ite_f (by omega) h; replace h := ite_f (by omega) h; replace h := ite_f (by omega) h; replace h := ite_f (by omega) h; replace h := ite_f (by omega) h; replace h := ite_f (by omega) h; replace h := ite_f (by omega) h; replace h := ite_t e432 h
    refine t_s fL_law_481 rfl rfl rfl ?_
    refine t_ret fL_law_482 (rL_law _ (by decide)) ?_
    exact qfw_i h
  · replace h := ite_f (by omega) h; replace h := ite_f (by omega) h; replace h := ite_f (by omega) h; replace h := ite_f (by omega) h; replace h := ite_f (by omega) h; replace h := ite_f (by omega) h; replace h := ite_f (by omega) h; replace h := ite_f (by omega) h; replace h := ite_f (by omega) h; replace h := ite_t e432 h
    refine t_s fL_law_514 rfl rfl rfl ?_
    refine t_ret fL_law_515 (rL_law _ (by decide)) ?_
    exact qfw_i h
  · replace h := ite_f (by omega) h; replace h := ite_f (by omega) h; replace h := ite_f (by omega) h; replace h := ite_f (by omega) h; replace h := ite_f (by omega) h; replace h := ite_f (by omega) h; replace h := ite_f (by omega) h; replace h := ite_f (by omega) h; replace h := ite_f (by omega) h; replace h := ite_f (by omega) h; replace h := ite_t e432 h
    refine t_s fL_law_547 rfl rfl rfl ?_
    refine t_ret fL_law_548 (rL_law _ (by decide)) ?_
    exact qfw_i h
  · replace h := ite_f (by omega) h; replace h := ite_f (by omega) h; replace h := ite_f (by omega) h; replace h := ite_f (by omega) h; replace h := ite_f (by omega) h; replace h := ite_f (by omega) h; replace h := ite_f (by omega) h; replace h := ite_f (by omega) h; replace h := ite_f (by omega) h; replace h := ite_f (by omega) h; replace h := ite_f (by omega) h; replace h := ite_t e432 h
    refine t_s fL_law_580 rfl rfl rfl ?_
    refine t_ret fL_law_581 (rL_law _ (by decide)) ?_
    exact qfw_i h
  · replace h := ite_f (by omega) h; replace h := ite_f (by omega) h; replace h := ite_f (by omega) h; replace h := ite_f (by omega) h; replace h := ite_f (by omega) h; replace h := ite_f (by omega) h; replace h := ite_f (by omega) h; replace h := ite_f (by omega) h; replace h := ite_f (by omega) h; replace h := ite_f (by omega) h; replace h := ite_f (by omega) h; replace h := ite_f (by omega) h; replace h := ite_t e432 h
    refine t_s fL_law_603 rfl rfl rfl ?_
    refine t_ret fL_law_604 (rL_law _ (by decide)) ?_
    exact qfw_i h
  · replace h := ite_f (by omega) h; replace h := ite_f (by omega) h; replace h := ite_f (by omega) h; replace h := ite_f (by omega) h; replace h := ite_f (by omega) h; replace h := ite_f (by omega) h; replace h := ite_f (by omega) h; replace h := ite_f (by omega) h; replace h := ite_f (by omega) h; replace h := ite_f (by omega) h; replace h := ite_f (by omega) h; replace h := ite_f (by omega) h; replace h := ite_f (by omega) h; replace h := ite_t e432 h
    refine t_s fL_law_636 rfl rfl rfl ?_
    refine t_ret fL_law_637 (rL_law _ (by decide)) ?_
    exact qfw_i h
  · replace h := ite_f (by omega) h; replace h := ite_f (by omega) h; replace h := ite_f (by omega) h; replace h := ite_f (by omega) h; replace h := ite_f (by omega) h; replace h := ite_f (by omega) h; replace h := ite_f (by omega) h; replace h := ite_f (by omega) h; replace h := ite_f (by omega) h; replace h := ite_f (by omega) h; replace h := ite_f (by omega) h; replace h := ite_f (by omega) h; replace h := ite_f (by omega) h; replace h := ite_f (by omega) h; replace h := ite_t e432 h
    refine t_s fL_law_669 rfl rfl rfl ?_
    refine t_ret fL_law_670 (rL_law _ (by decide)) ?_
    exact qfw_i h
  · replace h := ite_f (by omega) h; replace h := ite_f (by omega) h; replace h := ite_f (by omega) h; replace h := ite_f (by omega) h; replace h := ite_f (by omega) h; replace h := ite_f (by omega) h; replace h := ite_f (by omega) h; replace h := ite_f (by omega) h; replace h := ite_f (by omega) h; replace h := ite_f (by omega) h; replace h := ite_f (by omega) h; replace h := ite_f (by omega) h; replace h := ite_f (by omega) h; replace h := ite_f (by omega) h; replace h := ite_f (by omega) h; replace h := ite_t e432 h
    refine t_s fL_law_692 rfl rfl rfl ?_
    refine t_ret fL_law_693 (rL_law _ (by decide)) ?_
    exact qfw_i h
  · replace h := ite_f (by omega) h; replace h := ite_f (by omega) h; replace h := ite_f (by omega) h; replace h := ite_f (by omega) h; replace h := ite_f (by omega) h; replace h := ite_f (by omega) h; replace h := ite_f (by omega) h; replace h := ite_f (by omega) h; replace h := ite_f (by omega) h; replace h := ite_f (by omega) h; replace h := ite_f (by omega) h; replace h := ite_f (by omega) h; replace h := ite_f (by omega) h; replace h := ite_f (by omega) h; replace h := ite_f (by omega) h; replace h := ite_f (by omega) h; replace h := ite_t e432 h
    refine t_s fL_law_715 rfl rfl rfl ?_
    refine t_ret fL_law_716 (rL_law _ (by decide)) ?_
    exact qfw_i h
  · replace h := ite_f (by omega) h; replace h := ite_f (by omega) h; replace h := ite_f (by omega) h; replace h := ite_f (by omega) h; replace h := ite_f (by omega) h; replace h := ite_f (by omega) h; replace h := ite_f (by omega) h; replace h := ite_f (by omega) h; replace h := ite_f (by omega) h; replace h := ite_f (by omega) h; replace h := ite_f (by omega) h; replace h := ite_f (by omega) h; replace h := ite_f (by omega) h; replace h := ite_f (by omega) h; replace h := ite_f (by omega) h; replace h := ite_f (by omega) h; replace h := ite_f (by omega) h; replace h := ite_t e432 h
    refine t_s fL_law_758 rfl rfl rfl ?_
    refine t_ret fL_law_759 (rL_law _ (by decide)) ?_
    exact qfw_i h
  · replace h := ite_f (by omega) h; replace h := ite_f (by omega) h; replace h := ite_f (by omega) h; replace h := ite_f (by omega) h; replace h := ite_f (by omega) h; replace h := ite_f (by omega) h; replace h := ite_f (by omega) h; replace h := ite_f (by omega) h; replace h := ite_f (by omega) h; replace h := ite_f (by omega) h; replace h := ite_f (by omega) h; replace h := ite_f (by omega) h; replace h := ite_f (by omega) h; replace h := ite_f (by omega) h; replace h := ite_f (by omega) h; replace h := ite_f (by omega) h; replace h := ite_f (by omega) h; replace h := ite_f (by omega) h; replace h := ite_t e432 h
    refine t_s fL_law_781 rfl rfl rfl ?_
    refine t_ret fL_law_782 (rL_law _ (by decide)) ?_
    exact qfw_i h
  · replace h := ite_f (by omega) h; replace h := ite_f (by omega) h; replace h := ite_f (by omega) h; replace h := ite_f (by omega) h; replace h := ite_f (by omega) h; replace h := ite_f (by omega) h; replace h := ite_f (by omega) h; replace h := ite_f (by omega) h; replace h := ite_f (by omega) h; replace h := ite_f (by omega) h; replace h := ite_f (by omega) h; replace h := ite_f (by omega) h; replace h := ite_f (by omega) h; replace h := ite_f (by omega) h; replace h := ite_f (by omega) h; replace h := ite_f (by omega) h; replace h := ite_f (by omega) h; replace h := ite_f (by omega) h; replace h := ite_f (by omega) h; replace h := ite_t e432 h
    refine t_s fL_law_804 rfl rfl rfl ?_
    refine t_ret fL_law_805 (rL_law _ (by decide)) ?_
    exact qfw_i h
  · replace h := ite_f (by omega) h; replace h := ite_f (by omega) h; replace h := ite_f (by omega) h; replace h := ite_f (by omega) h; replace h := ite_f (by omega) h; replace h := ite_f (by omega) h; replace h := ite_f (by omega) h; replace h := ite_f (by omega) h; replace h := ite_f (by omega) h; replace h := ite_f (by omega) h; replace h := ite_f (by omega) h; replace h := ite_f (by omega) h; replace h := ite_f (by omega) h; replace h := ite_f (by omega) h; replace h := ite_f (by omega) h; replace h := ite_f (by omega) h; replace h := ite_f (by omega) h; replace h := ite_f (by omega) h; replace h := ite_f (by omega) h; replace h := ite_f (by omega) h; replace h := ite_t e432 h
    refine t_s fL_law_837 rfl rfl rfl ?_
    refine t_ret fL_law_838 (rL_law _ (by decide)) ?_
    exact qfw_i h
  · replace h := ite_f (by omega) h; replace h := ite_f (by omega) h; replace h := ite_f (by omega) h; replace h := ite_f (by omega) h; replace h := ite_f (by omega) h; replace h := ite_f (by omega) h; replace h := ite_f (by omega) h; replace h := ite_f (by omega) h; replace h := ite_f (by omega) h; replace h := ite_f (by omega) h; replace h := ite_f (by omega) h; replace h := ite_f (by omega) h; replace h := ite_f (by omega) h; replace h := ite_f (by omega) h; replace h := ite_f (by omega) h; replace h := ite_f (by omega) h; replace h := ite_f (by omega) h; replace h := ite_f (by omega) h; replace h := ite_f (by omega) h; replace h := ite_f (by omega) h; replace h := ite_f (by omega) h; replace h := ite_t e432 h
    refine t_s fL_law_880 rfl rfl rfl ?_
    refine t_ret fL_law_881 (rL_law _ (by decide)) ?_
    exact qfw_i h
  · replace h := ite_f (by omega) h; replace h := ite_f (by omega) h; replace h := ite_f (by omega) h; replace h := ite_f (by omega) h; replace h := ite_f (by omega) h; replace h := ite_f (by omega) h; replace h := ite_f (by omega) h; replace h := ite_f (by omega) h; replace h := ite_f (by omega) h; replace h := ite_f (by omega) h; replace h := ite_f (by omega) h; replace h := ite_f (by omega) h; replace h := ite_f (by omega) h; replace h := ite_f (by omega) h; replace h := ite_f (by omega) h; replace h := ite_f (by omega) h; replace h := ite_f (by omega) h; replace h := ite_f (by omega) h; replace h := ite_f (by omega) h; replace h := ite_f (by omega) h; replace h := ite_f (by omega) h; replace h := ite_f (by omega) h; replace h := ite_t e432 h
    refine t_s fL_law_903 rfl rfl rfl ?_
    refine t_ret fL_law_904 (rL_law _ (by decide)) ?_
    exact qfw_i h
  · replace h := ite_f (by omega) h; replace h := ite_f (by omega) h; replace h := ite_f (by omega) h; replace h := ite_f (by omega) h; replace h := ite_f (by omega) h; replace h := ite_f (by omega) h; replace h := ite_f (by omega) h; replace h := ite_f (by omega) h; replace h := ite_f (by omega) h; replace h := ite_f (by omega) h; replace h := ite_f (by omega) h; replace h := ite_f (by omega) h; replace h := ite_f (by omega) h; replace h := ite_f (by omega) h; replace h := ite_f (by omega) h; replace h := ite_f (by omega) h; replace h := ite_f (by omega) h; replace h := ite_f (by omega) h; replace h := ite_f (by omega) h; replace h := ite_f (by omega) h; replace h := ite_f (by omega) h; replace h := ite_f (by omega) h; replace h := ite_f (by omega) h; replace h := ite_t e432 h
    refine t_s fL_law_916 rfl rfl rfl ?_
    refine t_ret fL_law_917 (rL_law _ (by decide)) ?_
    exact qfw_i h
  · replace h := ite_f (by omega) h; replace h := ite_f (by omega) h; replace h := ite_f (by omega) h; replace h := ite_f (by omega) h; replace h := ite_f (by omega) h; replace h := ite_f (by omega) h; replace h := ite_f (by omega) h; replace h := ite_f (by omega) h; replace h := ite_f (by omega) h; replace h := ite_f (by omega) h; replace h := ite_f (by omega) h; replace h := ite_f (by omega) h; replace h := ite_f (by omega) h; replace h := ite_f (by omega) h; replace h := ite_f (by omega) h; replace h := ite_f (by omega) h; replace h := ite_f (by omega) h; replace h := ite_f (by omega) h; replace h := ite_f (by omega) h; replace h := ite_f (by omega) h; replace h := ite_f (by omega) h; replace h := ite_f (by omega) h; replace h := ite_f (by omega) h; replace h := ite_f (by omega) h; replace h := ite_t e432 h
    refine t_s fL_law_939 rfl rfl rfl ?_
    refine t_ret fL_law_940 (rL_law _ (by decide)) ?_
    exact qfw_i h
  · replace h := ite_f (by omega) h; replace h := ite_f (by omega) h; replace h := ite_f (by omega) h; replace h := ite_f (by omega) h; replace h := ite_f (by omega) h; replace h := ite_f (by omega) h; replace h := ite_f (by omega) h; replace h := ite_f (by omega) h; replace h := ite_f (by omega) h; replace h := ite_f (by omega) h; replace h := ite_f (by omega) h; replace h := ite_f (by omega) h; replace h := ite_f (by omega) h; replace h := ite_f (by omega) h; replace h := ite_f (by omega) h; replace h := ite_f (by omega) h; replace h := ite_f (by omega) h; replace h := ite_f (by omega) h; replace h := ite_f (by omega) h; replace h := ite_f (by omega) h; replace h := ite_f (by omega) h; replace h := ite_f (by omega) h; replace h := ite_f (by omega) h; replace h := ite_f (by omega) h; replace h := ite_f (by omega) h; replace h := ite_t e432 h
    refine t_s fL_law_962 rfl rfl rfl ?_
    refine t_ret fL_law_963 (rL_law _ (by decide)) ?_
    exact qfw_i h
  · replace h := ite_f (by omega) h; replace h := ite_f (by omega) h; replace h := ite_f (by omega) h; replace h := ite_f (by omega) h; replace h := ite_f (by omega) h; replace h := ite_f (by omega) h; replace h := ite_f (by omega) h; replace h := ite_f (by omega) h; replace h := ite_f (by omega) h; replace h := ite_f (by omega) h; replace h := ite_f (by omega) h; replace h := ite_f (by omega) h; replace h := ite_f (by omega) h; replace h := ite_f (by omega) h; replace h := ite_f (by omega) h; replace h := ite_f (by omega) h; replace h := ite_f (by omega) h; replace h := ite_f (by omega) h; replace h := ite_f (by omega) h; replace h := ite_f (by omega) h; replace h := ite_f (by omega) h; replace h := ite_f (by omega) h; replace h := ite_f (by omega) h; replace h := ite_f (by omega) h; replace h := ite_f (by omega) h; replace h := ite_f (by omega) h; replace h := ite_t e432 h
    refine t_s fL_law_975 rfl rfl rfl ?_
    refine t_ret fL_law_976 (rL_law _ (by decide)) ?_
    exact qfw_i h
  · replace h := ite_f (by omega) h; replace h := ite_f (by omega) h; replace h := ite_f (by omega) h; replace h := ite_f (by omega) h; replace h := ite_f (by omega) h; replace h := ite_f (by omega) h; replace h := ite_f (by omega) h; replace h := ite_f (by omega) h; replace h := ite_f (by omega) h; replace h := ite_f (by omega) h; replace h := ite_f (by omega) h; replace h := ite_f (by omega) h; replace h := ite_f (by omega) h; replace h := ite_f (by omega) h; replace h := ite_f (by omega) h; replace h := ite_f (by omega) h; replace h := ite_f (by omega) h; replace h := ite_f (by omega) h; replace h := ite_f (by omega) h; replace h := ite_f (by omega) h; replace h := ite_f (by omega) h; replace h := ite_f (by omega) h; replace h := ite_f (by omega) h; replace h := ite_f (by omega) h; replace h := ite_f (by omega) h; replace h := ite_f (by omega) h; replace h := ite_f (by omega) h; replace h := ite_t e432 h
    refine t_s fL_law_999 rfl rfl rfl ?_
    refine t_ret fL_law_1000 (rL_law _ (by decide)) ?_
    exact qfw_i h
  · replace h := ite_f (by omega) h; replace h := ite_f (by omega) h; replace h := ite_f (by omega) h; replace h := ite_f (by omega) h; replace h := ite_f (by omega) h; replace h := ite_f (by omega) h; replace h := ite_f (by omega) h; replace h := ite_f (by omega) h; replace h := ite_f (by omega) h; replace h := ite_f (by omega) h; replace h := ite_f (by omega) h; replace h := ite_f (by omega) h; replace h := ite_f (by omega) h; replace h := ite_f (by omega) h; replace h := ite_f (by omega) h; replace h := ite_f (by omega) h; replace h := ite_f (by omega) h; replace h := ite_f (by omega) h; replace h := ite_f (by omega) h; replace h := ite_f (by omega) h; replace h := ite_f (by omega) h; replace h := ite_f (by omega) h; replace h := ite_f (by omega) h; replace h := ite_f (by omega) h; replace h := ite_f (by omega) h; replace h := ite_f (by omega) h; replace h := ite_f (by omega) h; replace h := ite_f (by omega) h; replace h := ite_t e432 h
    refine t_s fL_law_1012 rfl rfl rfl ?_
    refine t_ret fL_law_1013 (rL_law _ (by decide)) ?_
    exact qfw_i h
  · replace h := ite_f (by omega) h; replace h := ite_f (by omega) h; replace h := ite_f (by omega) h; replace h := ite_f (by omega) h; replace h := ite_f (by omega) h; replace h := ite_f (by omega) h; replace h := ite_f (by omega) h; replace h := ite_f (by omega) h; replace h := ite_f (by omega) h; replace h := ite_f (by omega) h; replace h := ite_f (by omega) h; replace h := ite_f (by omega) h; replace h := ite_f (by omega) h; replace h := ite_f (by omega) h; replace h := ite_f (by omega) h; replace h := ite_f (by omega) h; replace h := ite_f (by omega) h; replace h := ite_f (by omega) h; replace h := ite_f (by omega) h; replace h := ite_f (by omega) h; replace h := ite_f (by omega) h; replace h := ite_f (by omega) h; replace h := ite_f (by omega) h; replace h := ite_f (by omega) h; replace h := ite_f (by omega) h; replace h := ite_f (by omega) h; replace h := ite_f (by omega) h; replace h := ite_f (by omega) h; replace h := ite_f (by omega) h; replace h := ite_t e432 h
    refine t_s fL_law_1035 rfl rfl rfl ?_
    refine t_ret fL_law_1036 (rL_law _ (by decide)) ?_
    exact qfw_i h
  · replace h := ite_f (by omega) h; replace h := ite_f (by omega) h; replace h := ite_f (by omega) h; replace h := ite_f (by omega) h; replace h := ite_f (by omega) h; replace h := ite_f (by omega) h; replace h := ite_f (by omega) h; replace h := ite_f (by omega) h; replace h := ite_f (by omega) h; replace h := ite_f (by omega) h; replace h := ite_f (by omega) h; replace h := ite_f (by omega) h; replace h := ite_f (by omega) h; replace h := ite_f (by omega) h; replace h := ite_f (by omega) h; replace h := ite_f (by omega) h; replace h := ite_f (by omega) h; replace h := ite_f (by omega) h; replace h := ite_f (by omega) h; replace h := ite_f (by omega) h; replace h := ite_f (by omega) h; replace h := ite_f (by omega) h; replace h := ite_f (by omega) h; replace h := ite_f (by omega) h; replace h := ite_f (by omega) h; replace h := ite_f (by omega) h; replace h := ite_f (by omega) h; replace h := ite_f (by omega) h; replace h := ite_f (by omega) h; replace h := ite_f (by omega) h; replace h := ite_t e432 h
    refine t_s fL_law_1048 rfl rfl rfl ?_
    refine t_ret fL_law_1049 (rL_law _ (by decide)) ?_
    exact qfw_i h
  · replace h := ite_f (by omega) h; replace h := ite_f (by omega) h; replace h := ite_f (by omega) h; replace h := ite_f (by omega) h; replace h := ite_f (by omega) h; replace h := ite_f (by omega) h; replace h := ite_f (by omega) h; replace h := ite_f (by omega) h; replace h := ite_f (by omega) h; replace h := ite_f (by omega) h; replace h := ite_f (by omega) h; replace h := ite_f (by omega) h; replace h := ite_f (by omega) h; replace h := ite_f (by omega) h; replace h := ite_f (by omega) h; replace h := ite_f (by omega) h; replace h := ite_f (by omega) h; replace h := ite_f (by omega) h; replace h := ite_f (by omega) h; replace h := ite_f (by omega) h; replace h := ite_f (by omega) h; replace h := ite_f (by omega) h; replace h := ite_f (by omega) h; replace h := ite_f (by omega) h; replace h := ite_f (by omega) h; replace h := ite_f (by omega) h; replace h := ite_f (by omega) h; replace h := ite_f (by omega) h; replace h := ite_f (by omega) h; replace h := ite_f (by omega) h; replace h := ite_f (by omega) h; replace h := ite_t e432 h
    refine t_s fL_law_1071 rfl rfl rfl ?_
    refine t_ret fL_law_1072 (rL_law _ (by decide)) ?_
    exact qfw_i h
  · replace h := ite_f (by omega) h; replace h := ite_f (by omega) h; replace h := ite_f (by omega) h; replace h := ite_f (by omega) h; replace h := ite_f (by omega) h; replace h := ite_f (by omega) h; replace h := ite_f (by omega) h; replace h := ite_f (by omega) h; replace h := ite_f (by omega) h; replace h := ite_f (by omega) h; replace h := ite_f (by omega) h; replace h := ite_f (by omega) h; replace h := ite_f (by omega) h; replace h := ite_f (by omega) h; replace h := ite_f (by omega) h; replace h := ite_f (by omega) h; replace h := ite_f (by omega) h; replace h := ite_f (by omega) h; replace h := ite_f (by omega) h; replace h := ite_f (by omega) h; replace h := ite_f (by omega) h; replace h := ite_f (by omega) h; replace h := ite_f (by omega) h; replace h := ite_f (by omega) h; replace h := ite_f (by omega) h; replace h := ite_f (by omega) h; replace h := ite_f (by omega) h; replace h := ite_f (by omega) h; replace h := ite_f (by omega) h; replace h := ite_f (by omega) h; replace h := ite_f (by omega) h; replace h := ite_f (by omega) h
    refine t_s fL_law_1079 rfl rfl rfl ?_
    refine t_ret fL_law_1080 (rL_law _ (by decide)) ?_
    exact qfw_i h


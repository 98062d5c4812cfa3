theorem q_X7_cut {X : mX} {n z : Nat} {G : mG} {r0 : Nat} (hr0 : is7 G r0) {x1 : Int} {V V' : mV} {v : Int} (h : F_X7_cut G r0 x1 V = some (V', v)) : Rn X (0) 100 [.ref r0, .int (iI x1)] n z G V n z G V' none := by
  refine qv_toR (v := v) (L := [some (.ref r0), some (.int (iI x1))]) rfl ?_
  unfold F_X7_cut at h
  refine t_l fX7_cut_0 rfl rfl rfl rfl ?_
  obtain ⟨g2, h⟩ := gd_some h
  refine k9_if_lt fX7_cut_1 rfl g2 (fun c1 => ?_) (fun c1 => ?_)
  · replace h := ite_t (c1) h
    refine t_ret fX7_cut_17 rX7_cut ?_
    exact qf_v h
  · replace h := ite_f (c1) h
    refine t_l fX7_cut_4 rfl rfl rfl rfl ?_
    refine t_l fX7_cut_5 rfl rfl rfl rfl ?_
    refine k9_gi fX7_cut_6 (hr0).1 kg_7_1 ?_
    obtain ⟨g4, h⟩ := gd_some h
    refine k9_ic_ge fX7_cut_9 rfl g2 g4 (fun c3 => ?_) (fun c3 => ?_)
    · replace h := ite_t (c3) h
      refine t_ret fX7_cut_17 rX7_cut ?_
      exact qf_v h
    · replace h := ite_f (c3) h
      refine t_l fX7_cut_12 rfl rfl rfl rfl ?_
      refine t_l fX7_cut_13 rfl rfl rfl rfl ?_
      refine k9_pi fX7_cut_14 (hr0).1 kp_7_1 ?_
      replace h := lt_some h
      refine t_ret fX7_cut_17 rX7_cut ?_
      exact qf_v h

theorem q_X7_put {X : mX} {n z : Nat} {G : mG} {r0 : Nat} (hr0 : is7 G r0) {x1 x2 : Int} {V V' : mV} {v : Int} (h : F_X7_put G r0 x1 x2 V = some (V', v)) : Rn X (0) 97 [.ref r0, .int (iI x1), .int (iI x2)] n z G V n z G V' none := by
  refine qv_toR (v := v) (L := [some (.ref r0), some (.int (iI x1)), some (.int (iI x2))]) rfl ?_
  unfold F_X7_put at h
  refine t_l fX7_put_0 rfl rfl rfl rfl ?_
  obtain ⟨g2, h⟩ := gd_some h
  refine k9_if_lt fX7_put_1 rfl g2 (fun c1 => ?_) (fun c1 => ?_)
  · replace h := ite_t (c1) h
    refine t_ret fX7_put_28 rX7_put ?_
    exact qf_v h
  · replace h := ite_f (c1) h
    refine t_l fX7_put_4 rfl rfl rfl rfl ?_
    refine t_l fX7_put_5 rfl rfl rfl rfl ?_
    refine k9_gi fX7_put_6 (hr0).1 kg_7_1 ?_
    obtain ⟨g4, h⟩ := gd_some h
    refine k9_ic_ge fX7_put_9 rfl g2 g4 (fun c3 => ?_) (fun c3 => ?_)
    · replace h := ite_t (c3) h
      refine t_ret fX7_put_28 rX7_put ?_
      exact qf_v h
    · replace h := ite_f (c3) h
      refine t_l fX7_put_12 rfl rfl rfl rfl ?_
      refine t_l fX7_put_13 rfl rfl rfl rfl ?_
      refine k9_gr fX7_put_14 (hr0).1 kg_7_0 (s7_0r hr0) ?_
      refine k9_len fX7_put_17 (s7_0s hr0) (by decide) ?_
      obtain ⟨g6, h⟩ := gd_some h
      refine k9_ic_ge fX7_put_18 rfl g2 g6 (fun c5 => ?_) (fun c5 => ?_)
      · replace h := ite_t (c5) h
        refine t_ret fX7_put_28 rX7_put ?_
        exact qf_v h
      · replace h := ite_f (c5) h
        refine t_l fX7_put_21 rfl rfl rfl rfl ?_
        refine k9_gr fX7_put_22 (hr0).1 kg_7_0 (s7_0r hr0) ?_
        refine t_l fX7_put_25 rfl rfl rfl rfl ?_
        refine t_l fX7_put_26 rfl rfl rfl rfl ?_
        obtain ⟨g7, h⟩ := gd_some h
        refine k9_is fX7_put_27 (s7_0s hr0) g7.1 g7.2.1 g7.2.2 ?_
        replace h := lt_some h
        refine t_ret fX7_put_28 rX7_put ?_
        exact qf_v h

theorem tb_X7_fill_19 {X : mX} {n z : Nat} {G : mG} {r0 : Nat} (hr0 : is7 G r0) {x1 x2 x3 : Int} {V V' : mV} {q : Nat × Int} {Q : Nat → Nat → mG → mV → Option Value → Prop} (h0 : q.1 = 0 → T X (1) 101 19 [some (.ref r0), some (.int (iI x1)), some (.int (iI x2)), some (.int (iI q.2))] [] n z G V' Q) (h1 : q.1 = 1 → T X (1) 101 39 [some (.ref r0), some (.int (iI x1)), some (.int (iI x2)), some (.int (iI q.2))] [] n z G V' Q) (h : B_X7_fill_19 G r0 x1 x2 x3 V = some (V', q)) : T X (1) 101 19 [some (.ref r0), some (.int (iI x1)), some (.int (iI x2)), some (.int (iI x3))] [] n z G V Q := by
  unfold B_X7_fill_19 at h
  refine t_l fX7_fill_19 rfl rfl rfl rfl ?_
  refine t_l fX7_fill_20 rfl rfl rfl rfl ?_
  refine k9_gi fX7_fill_21 (hr0).1 kg_7_1 ?_
  obtain ⟨g6, h⟩ := gd_some h
  obtain ⟨g7, h⟩ := gd_some h
  refine k9_ic_ge fX7_fill_24 rfl g6 g7 (fun c5 => ?_) (fun c5 => ?_)
  · replace h := ite_t (c5) h
    cases h
    exact h1 rfl
  · replace h := ite_f (c5) h
    refine t_l fX7_fill_27 rfl rfl rfl rfl ?_
    refine t_l fX7_fill_28 rfl rfl rfl rfl ?_
    refine t_l fX7_fill_29 rfl rfl rfl rfl ?_
    obtain ⟨V8, v9, e10, h⟩ := bd_some h
    refine kcX7_put fX7_fill_30 (hr0).1 rfl (q_X7_put (hr0) e10) (by decide) ?_
    replace h := lt_some h
    refine k9_iinc fX7_fill_33 rfl (Nat.le_of_ble_eq_true rfl) rfl ?_
    refine k9_goto fX7_fill_36 rfl ?_
    cases h
    exact h0 rfl

theorem tl_X7_fill_19 {X : mX} {n z : Nat} {G : mG} {r0 : Nat} (hr0 : is7 G r0) {x1 x2 x3 : Int} {V V' : mV} {fu : Nat} {q : Nat × Int} {Q : Nat → Nat → mG → mV → Option Value → Prop} (k1 : q.1 = 1 → T X (1) 101 39 [some (.ref r0), some (.int (iI x1)), some (.int (iI x2)), some (.int (iI q.2))] [] n z G V' Q) (h : lp (fun (s : Int) V => B_X7_fill_19 G r0 x1 x2 s V) fu x3 V = some (V', q)) : T X (1) 101 19 [some (.ref r0), some (.int (iI x1)), some (.int (iI x2)), some (.int (iI x3))] [] n z G V Q :=
  lp_go (P0 := fun s V => T X (1) 101 19 [some (.ref r0), some (.int (iI x1)), some (.int (iI x2)), some (.int (iI s))] [] n z G V Q) (PE := fun t s V => (t = 1 → T X (1) 101 39 [some (.ref r0), some (.int (iI x1)), some (.int (iI x2)), some (.int (iI s))] [] n z G V Q)) (fun s V V' q hb h0 h1 => tb_X7_fill_19 hr0  h0 (fun e => (h1 (by omega)) e) hb) fu x3 V V' q h k1

theorem q_X7_fill {X : mX} {n z : Nat} {G : mG} {r0 : Nat} (hr0 : is7 G r0) {x1 x2 : Int} {V V' : mV} {v : Int} (h : F_X7_fill G r0 x1 x2 V = some (V', v)) : Rn X (1) 101 [.ref r0, .int (iI x1), .int (iI x2)] n z G V n z G V' none := by
  refine qv_toR (v := v) (L := [some (.ref r0), some (.int (iI x1)), some (.int (iI x2)), none]) rfl ?_
  unfold F_X7_fill at h
  refine t_l fX7_fill_0 rfl rfl rfl rfl ?_
  refine t_l fX7_fill_1 rfl rfl rfl rfl ?_
  refine t_s fX7_fill_2 rfl rfl rfl ?_
  obtain ⟨g1, h⟩ := gd_some h
  refine kcM_max fX7_fill_3 rfl (eM_max g1 ⟨by decide, by decide⟩) (by decide) ?_
  refine t_l fX7_fill_6 rfl rfl rfl rfl ?_
  refine k9_gr fX7_fill_7 (hr0).1 kg_7_0 (s7_0r hr0) ?_
  refine k9_len fX7_fill_10 (s7_0s hr0) (by decide) ?_
  obtain ⟨g2, h⟩ := gd_some h
  obtain ⟨g3, h⟩ := gd_some h
  refine kcM_min fX7_fill_11 rfl (eM_min g2 g3) (by decide) ?_
  refine k9_pi fX7_fill_14 (hr0).1 kp_7_1 ?_
  replace h := lt_some h
  refine t_s fX7_fill_17 rfl rfl rfl ?_
  refine t_l fX7_fill_18 rfl rfl rfl rfl ?_
  obtain ⟨V12, u13, e14, h⟩ := bd_some h
  refine tl_X7_fill_19 hr0  (fun e15 => ?_) e14
  refine t_ret fX7_fill_39 rX7_fill ?_
  exact qf_v h

theorem q_X0_begin {X : mX} {n z : Nat} {G : mG} {r0 : Nat} (hr0 : is0 G r0) {x1 : Int} {V V' : mV} {v : Int} (h : F_X0_begin G r0 x1 V = some (V', v)) : Rn X (2) 1 [.ref r0, .int (iI x1)] n z G V n z G V' none := by
  refine qv_toR (v := v) (L := [some (.ref r0), some (.int (iI x1))]) rfl ?_
  unfold F_X0_begin at h
  refine t_l fX0_begin_0 rfl rfl rfl rfl ?_
  refine t_l fX0_begin_1 rfl rfl rfl rfl ?_
  refine k9_pi fX0_begin_2 (hr0).1 kp_0_3 ?_
  replace h := lt_some h
  refine t_l fX0_begin_5 rfl rfl rfl rfl ?_
  refine k9_gr fX0_begin_6 (hr0).1 kg_0_0 (s0_0r hr0) ?_
  refine t_s fX0_begin_9 rfl rfl rfl ?_
  refine t_s fX0_begin_11 rfl rfl rfl ?_
  obtain ⟨V2, v3, e4, h⟩ := bd_some h
  refine kcX7_fill fX0_begin_14 (s0_0s hr0).1 rfl (q_X7_fill (s0_0s hr0) e4) (by decide) ?_
  refine t_l fX0_begin_17 rfl rfl rfl rfl ?_
  refine k9_gr fX0_begin_18 (hr0).1 kg_0_1 (s0_1r hr0) ?_
  refine t_s fX0_begin_21 rfl rfl rfl ?_
  refine t_s fX0_begin_24 rfl rfl rfl ?_
  obtain ⟨V5, v6, e7, h⟩ := bd_some h
  refine kcX7_fill fX0_begin_27 (s0_1s hr0).1 rfl (q_X7_fill (s0_1s hr0) e7) (by decide) ?_
  refine t_l fX0_begin_30 rfl rfl rfl rfl ?_
  refine k9_gr fX0_begin_31 (hr0).1 kg_0_2 (s0_2r hr0) ?_
  refine t_s fX0_begin_34 rfl rfl rfl ?_
  obtain ⟨V8, v9, e10, h⟩ := bd_some h
  refine kcX7_cut fX0_begin_35 (s0_2s hr0).1 rfl (q_X7_cut (s0_2s hr0) e10) (by decide) ?_
  refine t_ret fX0_begin_38 rX0_begin ?_
  exact qf_v h

theorem q_X0_setCost {X : mX} {n z : Nat} {G : mG} {r0 : Nat} (hr0 : is0 G r0) {x1 x2 x3 : Int} {V V' : mV} {v : Int} (h : F_X0_setCost G r0 x1 x2 x3 V = some (V', v)) : Rn X (1) 2 [.ref r0, .int (iI x1), .int (iI x2), .int (iI x3)] n z G V n z G V' none := by
  refine qv_toR (v := v) (L := [some (.ref r0), some (.int (iI x1)), some (.int (iI x2)), some (.int (iI x3))]) rfl ?_
  unfold F_X0_setCost at h
  refine t_l fX0_setCost_0 rfl rfl rfl rfl ?_
  refine k9_gr fX0_setCost_1 (hr0).1 kg_0_0 (s0_0r hr0) ?_
  refine t_l fX0_setCost_4 rfl rfl rfl rfl ?_
  refine t_s fX0_setCost_5 rfl rfl rfl ?_
  refine k9_imul fX0_setCost_7 ?_
  refine t_l fX0_setCost_8 rfl rfl rfl rfl ?_
  refine k9_iadd fX0_setCost_9 ?_
  refine t_l fX0_setCost_10 rfl rfl rfl rfl ?_
  obtain ⟨V1, v2, e3, h⟩ := bd_some h
  refine kcX7_put fX0_setCost_11 (s0_0s hr0).1 rfl (q_X7_put (s0_0s hr0) e3) (by decide) ?_
  refine t_ret fX0_setCost_14 rX0_setCost ?_
  exact qf_v h

theorem q_X7_get {X : mX} {n z : Nat} {G : mG} {r0 : Nat} (hr0 : is7 G r0) {x1 : Int} {V V' : mV} {v : Int} (h : F_X7_get G r0 x1 V = some (V', v)) : Rn X (0) 96 [.ref r0, .int (iI x1)] n z G V n z G V' (some (.int (iI v))) := by
  refine qi_toR (v := v) (L := [some (.ref r0), some (.int (iI x1))]) rfl ?_
  unfold F_X7_get at h
  refine t_l fX7_get_0 rfl rfl rfl rfl ?_
  obtain ⟨g2, h⟩ := gd_some h
  refine k9_if_lt fX7_get_1 rfl g2 (fun c1 => ?_) (fun c1 => ?_)
  · replace h := ite_t (c1) h
    refine t_s fX7_get_30 rfl rfl rfl ?_
    refine t_ret fX7_get_31 rX7_get ?_
    exact qf_i h
  · replace h := ite_f (c1) h
    refine t_l fX7_get_4 rfl rfl rfl rfl ?_
    refine t_l fX7_get_5 rfl rfl rfl rfl ?_
    refine k9_gi fX7_get_6 (hr0).1 kg_7_1 ?_
    obtain ⟨g4, h⟩ := gd_some h
    refine k9_ic_ge fX7_get_9 rfl g2 g4 (fun c3 => ?_) (fun c3 => ?_)
    · replace h := ite_t (c3) h
      refine t_s fX7_get_30 rfl rfl rfl ?_
      refine t_ret fX7_get_31 rX7_get ?_
      exact qf_i h
    · replace h := ite_f (c3) h
      refine t_l fX7_get_12 rfl rfl rfl rfl ?_
      refine t_l fX7_get_13 rfl rfl rfl rfl ?_
      refine k9_gr fX7_get_14 (hr0).1 kg_7_0 (s7_0r hr0) ?_
      refine k9_len fX7_get_17 (s7_0s hr0) (by decide) ?_
      obtain ⟨g6, h⟩ := gd_some h
      refine k9_ic_ge fX7_get_18 rfl g2 g6 (fun c5 => ?_) (fun c5 => ?_)
      · replace h := ite_t (c5) h
        refine t_s fX7_get_30 rfl rfl rfl ?_
        refine t_ret fX7_get_31 rX7_get ?_
        exact qf_i h
      · replace h := ite_f (c5) h
        refine t_l fX7_get_21 rfl rfl rfl rfl ?_
        refine k9_gr fX7_get_22 (hr0).1 kg_7_0 (s7_0r hr0) ?_
        refine t_l fX7_get_25 rfl rfl rfl rfl ?_
        obtain ⟨g7, h⟩ := gd_some h
        refine k9_ia fX7_get_26 (s7_0s hr0) g7.1 g7.2.1 g7.2.2 ?_
        refine k9_goto fX7_get_27 rfl ?_
        refine t_ret fX7_get_31 rX7_get ?_
        exact qf_i h

theorem q_X0_costBy {X : mX} {n z : Nat} {G : mG} {r0 : Nat} (hr0 : is0 G r0) {x1 x2 x3 : Int} {V V' : mV} {v : Int} (h : F_X0_costBy G r0 x1 x2 x3 V = some (V', v)) : Rn X (1) 7 [.ref r0, .int (iI x1), .int (iI x2), .int (iI x3)] n z G V n z G V' (some (.int (iI v))) := by
  refine qi_toR (v := v) (L := [some (.ref r0), some (.int (iI x1)), some (.int (iI x2)), some (.int (iI x3))]) rfl ?_
  unfold F_X0_costBy at h
  refine t_l fX0_costBy_0 rfl rfl rfl rfl ?_
  refine k9_gr fX0_costBy_1 (hr0).1 kg_0_0 (s0_0r hr0) ?_
  refine t_l fX0_costBy_4 rfl rfl rfl rfl ?_
  refine t_s fX0_costBy_5 rfl rfl rfl ?_
  refine k9_imul fX0_costBy_7 ?_
  refine t_l fX0_costBy_8 rfl rfl rfl rfl ?_
  refine k9_iadd fX0_costBy_9 ?_
  obtain ⟨V1, v2, e3, h⟩ := bd_some h
  refine kcX7_get fX0_costBy_10 (s0_0s hr0).1 rfl (q_X7_get (s0_0s hr0) e3) (by decide) ?_
  refine t_l fX0_costBy_13 rfl rfl rfl rfl ?_
  refine k9_gr fX0_costBy_14 (hr0).1 kg_0_1 (s0_1r hr0) ?_
  refine t_l fX0_costBy_17 rfl rfl rfl rfl ?_
  refine t_s fX0_costBy_18 rfl rfl rfl ?_
  refine t_l fX0_costBy_19 rfl rfl rfl rfl ?_
  obtain ⟨g4, h⟩ := gd_some h
  refine k8_ishl fX0_costBy_20 g4 ?_
  obtain ⟨g5, h⟩ := gd_some h
  refine k8_ior fX0_costBy_21 g5 ?_
  obtain ⟨V6, v7, e8, h⟩ := bd_some h
  refine kcX7_get fX0_costBy_22 (s0_1s hr0).1 rfl (q_X7_get (s0_1s hr0) e8) (by decide) ?_
  refine k9_iadd fX0_costBy_25 ?_
  refine t_ret fX0_costBy_26 rX0_costBy ?_
  exact qf_i h

theorem tb_X0_cheapest_8 {X : mX} {n z : Nat} {G : mG} {r0 : Nat} (hr0 : is0 G r0) {x1 x2 x3 x4 x5 : Int} {j6 : Option Value} {V V' : mV} {q : Nat × Int × Int × Int} {Q : Nat → Nat → mG → mV → Option Value → Prop} (h0 : q.1 = 0 → ∀ j6 : Option Value, T X (2) 6 8 [some (.ref r0), some (.int (iI x1)), some (.int (iI x2)), some (.int (iI q.2.1)), some (.int (iI q.2.2.1)), some (.int (iI q.2.2.2)), j6] [] n z G V' Q) (h1 : q.1 = 1 → ∀ j6 : Option Value, T X (2) 6 61 [some (.ref r0), some (.int (iI x1)), some (.int (iI x2)), some (.int (iI q.2.1)), some (.int (iI q.2.2.1)), some (.int (iI q.2.2.2)), j6] [] n z G V' Q) (h : B_X0_cheapest_8 G r0 x1 x2 x3 x4 x5 V = some (V', q)) : T X (2) 6 8 [some (.ref r0), some (.int (iI x1)), some (.int (iI x2)), some (.int (iI x3)), some (.int (iI x4)), some (.int (iI x5)), j6] [] n z G V Q := by
  unfold B_X0_cheapest_8 at h
  refine t_l fX0_cheapest_8 rfl rfl rfl rfl ?_
  refine t_l fX0_cheapest_10 rfl rfl rfl rfl ?_
  refine k9_gi fX0_cheapest_11 (hr0).1 kg_0_3 ?_
  obtain ⟨g2, h⟩ := gd_some h
  obtain ⟨g3, h⟩ := gd_some h
  refine k9_ic_ge fX0_cheapest_14 rfl g2 g3 (fun c1 => ?_) (fun c1 => ?_)
  · replace h := ite_t (c1) h
    cases h
    exact h1 rfl _
  · replace h := ite_f (c1) h
    refine t_l fX0_cheapest_17 rfl rfl rfl rfl ?_
    refine t_l fX0_cheapest_18 rfl rfl rfl rfl ?_
    refine t_l fX0_cheapest_19 rfl rfl rfl rfl ?_
    refine t_l fX0_cheapest_20 rfl rfl rfl rfl ?_
    obtain ⟨V4, v5, e6, h⟩ := bd_some h
    refine kcX0_costBy fX0_cheapest_22 (hr0).1 rfl (q_X0_costBy (hr0) e6) (by decide) ?_
    refine t_l fX0_cheapest_25 rfl rfl rfl rfl ?_
    refine t_l fX0_cheapest_27 rfl rfl rfl rfl ?_
    refine t_l fX0_cheapest_28 rfl rfl rfl rfl ?_
    obtain ⟨g7, h⟩ := gd_some h
    obtain ⟨g8, h⟩ := gd_some h
    refine k8_ishr fX0_cheapest_30 g7 g8 ?_
    refine t_s fX0_cheapest_31 rfl rfl rfl ?_
    refine k8_iand2 fX0_cheapest_32 ?_
    obtain ⟨g10, h⟩ := gd_some h
    refine k9_if_ne fX0_cheapest_33 rfl g10 (fun c9 => ?_) (fun c9 => ?_)
    · replace h := ite_f (c9) h
      replace h := lt_some h
      refine k9_iinc fX0_cheapest_55 rfl (Nat.le_of_ble_eq_true rfl) rfl ?_
      refine k9_goto fX0_cheapest_58 rfl ?_
      cases h
      exact h0 rfl _
    · replace h := ite_t (Classical.not_not.mp c9) h
      refine t_l fX0_cheapest_36 rfl rfl rfl rfl ?_
      refine t_s fX0_cheapest_37 rfl rfl rfl ?_
      obtain ⟨g13, h⟩ := gd_some h
      refine k9_ic_eq fX0_cheapest_38 rfl g13 ⟨by decide, by decide⟩ (fun c12 => ?_) (fun c12 => ?_)
      · replace h := ite_t (c12) h
        refine t_l fX0_cheapest_48 rfl rfl rfl rfl ?_
        refine t_l fX0_cheapest_50 rfl rfl rfl rfl ?_
        refine t_l fX0_cheapest_51 rfl rfl rfl rfl ?_
        refine t_l fX0_cheapest_53 rfl rfl rfl rfl ?_
        replace h := lt_some h
        refine k9_iinc fX0_cheapest_55 rfl (Nat.le_of_ble_eq_true rfl) rfl ?_
        refine k9_goto fX0_cheapest_58 rfl ?_
        cases h
        exact h0 rfl _
      · replace h := ite_f (c12) h
        refine t_l fX0_cheapest_41 rfl rfl rfl rfl ?_
        refine t_l fX0_cheapest_43 rfl rfl rfl rfl ?_
        obtain ⟨g16, h⟩ := gd_some h
        obtain ⟨g17, h⟩ := gd_some h
        refine k9_ic_ge fX0_cheapest_45 rfl g16 g17 (fun c15 => ?_) (fun c15 => ?_)
        · replace h := ite_t (c15) h
          replace h := lt_some h
          refine k9_iinc fX0_cheapest_55 rfl (Nat.le_of_ble_eq_true rfl) rfl ?_
          refine k9_goto fX0_cheapest_58 rfl ?_
          cases h
          exact h0 rfl _
        · replace h := ite_f (c15) h
          refine t_l fX0_cheapest_48 rfl rfl rfl rfl ?_
          refine t_l fX0_cheapest_50 rfl rfl rfl rfl ?_
          refine t_l fX0_cheapest_51 rfl rfl rfl rfl ?_
          refine t_l fX0_cheapest_53 rfl rfl rfl rfl ?_
          replace h := lt_some h
          refine k9_iinc fX0_cheapest_55 rfl (Nat.le_of_ble_eq_true rfl) rfl ?_
          refine k9_goto fX0_cheapest_58 rfl ?_
          cases h
          exact h0 rfl _

theorem tl_X0_cheapest_8 {X : mX} {n z : Nat} {G : mG} {r0 : Nat} (hr0 : is0 G r0) {x1 x2 x3 x4 x5 : Int} {j6 : Option Value} {V V' : mV} {fu : Nat} {q : Nat × Int × Int × Int} {Q : Nat → Nat → mG → mV → Option Value → Prop} (k1 : q.1 = 1 → ∀ j6 : Option Value, T X (2) 6 61 [some (.ref r0), some (.int (iI x1)), some (.int (iI x2)), some (.int (iI q.2.1)), some (.int (iI q.2.2.1)), some (.int (iI q.2.2.2)), j6] [] n z G V' Q) (h : lp (fun (s : Int × Int × Int) V => B_X0_cheapest_8 G r0 x1 x2 s.1 s.2.1 s.2.2 V) fu (x3, x4, x5) V = some (V', q)) : T X (2) 6 8 [some (.ref r0), some (.int (iI x1)), some (.int (iI x2)), some (.int (iI x3)), some (.int (iI x4)), some (.int (iI x5)), j6] [] n z G V Q :=
  lp_go (P0 := fun s V => ∀ j6 : Option Value, T X (2) 6 8 [some (.ref r0), some (.int (iI x1)), some (.int (iI x2)), some (.int (iI s.1)), some (.int (iI s.2.1)), some (.int (iI s.2.2)), j6] [] n z G V Q) (PE := fun t s V => (t = 1 → ∀ j6 : Option Value, T X (2) 6 61 [some (.ref r0), some (.int (iI x1)), some (.int (iI x2)), some (.int (iI s.1)), some (.int (iI s.2.1)), some (.int (iI s.2.2)), j6] [] n z G V Q)) (fun s V V' q hb h0 h1 => fun _ => tb_X0_cheapest_8 hr0  h0 (fun e => (h1 (by omega)) e) hb) fu (x3, x4, x5) V V' q h k1 _

theorem q_X0_cheapest {X : mX} {n z : Nat} {G : mG} {r0 : Nat} (hr0 : is0 G r0) {x1 x2 : Int} {V V' : mV} {v : Int} (h : F_X0_cheapest G r0 x1 x2 V = some (V', v)) : Rn X (2) 6 [.ref r0, .int (iI x1), .int (iI x2)] n z G V n z G V' (some (.int (iI v))) := by
  refine qi_toR (v := v) (L := [some (.ref r0), some (.int (iI x1)), some (.int (iI x2)), none, none, none, none]) rfl ?_
  unfold F_X0_cheapest at h
  refine t_s fX0_cheapest_0 rfl rfl rfl ?_
  refine t_l fX0_cheapest_1 rfl rfl rfl rfl ?_
  refine t_s fX0_cheapest_2 rfl rfl rfl ?_
  refine t_l fX0_cheapest_3 rfl rfl rfl rfl ?_
  refine t_s fX0_cheapest_5 rfl rfl rfl ?_
  refine t_l fX0_cheapest_6 rfl rfl rfl rfl ?_
  obtain ⟨V20, u21, e22, h⟩ := bd_some h
  refine tl_X0_cheapest_8 hr0  (fun e23 j6 => ?_) e22
  refine t_l fX0_cheapest_61 rfl rfl rfl rfl ?_
  refine t_ret fX0_cheapest_62 rX0_cheapest ?_
  exact qf_i h

theorem q_X7_add {X : mX} {n z : Nat} {G : mG} {r0 : Nat} (hr0 : is7 G r0) {x1 : Int} {V V' : mV} {v : Int} (h : F_X7_add G r0 x1 V = some (V', v)) : Rn X (0) 98 [.ref r0, .int (iI x1)] n z G V n z G V' none := by
  refine qv_toR (v := v) (L := [some (.ref r0), some (.int (iI x1))]) rfl ?_
  unfold F_X7_add at h
  refine t_l fX7_add_0 rfl rfl rfl rfl ?_
  refine k9_gi fX7_add_1 (hr0).1 kg_7_1 ?_
  obtain ⟨g2, h⟩ := gd_some h
  refine k9_if_lt fX7_add_4 rfl g2 (fun c1 => ?_) (fun c1 => ?_)
  · replace h := ite_t (c1) h
    refine t_ret fX7_add_39 rX7_add ?_
    exact qf_v h
  · replace h := ite_f (c1) h
    refine t_l fX7_add_7 rfl rfl rfl rfl ?_
    refine k9_gi fX7_add_8 (hr0).1 kg_7_1 ?_
    refine t_l fX7_add_11 rfl rfl rfl rfl ?_
    refine k9_gr fX7_add_12 (hr0).1 kg_7_0 (s7_0r hr0) ?_
    refine k9_len fX7_add_15 (s7_0s hr0) (by decide) ?_
    obtain ⟨g4, h⟩ := gd_some h
    refine k9_ic_ge fX7_add_16 rfl g2 g4 (fun c3 => ?_) (fun c3 => ?_)
    · replace h := ite_t (c3) h
      refine t_ret fX7_add_39 rX7_add ?_
      exact qf_v h
    · replace h := ite_f (c3) h
      refine t_l fX7_add_19 rfl rfl rfl rfl ?_
      refine k9_gr fX7_add_20 (hr0).1 kg_7_0 (s7_0r hr0) ?_
      refine t_l fX7_add_23 rfl rfl rfl rfl ?_
      refine k9_gi fX7_add_24 (hr0).1 kg_7_1 ?_
      refine t_l fX7_add_27 rfl rfl rfl rfl ?_
      obtain ⟨g5, h⟩ := gd_some h
      refine k9_is fX7_add_28 (s7_0s hr0) g5.1 g5.2.1 g5.2.2 ?_
      replace h := lt_some h
      refine t_l fX7_add_29 rfl rfl rfl rfl ?_
      refine t_s fX7_add_30 rfl rfl rfl ?_
      refine k9_gi fX7_add_31 (hr0).1 kg_7_1 ?_
      refine t_s fX7_add_34 rfl rfl rfl ?_
      refine k9_iadd fX7_add_35 ?_
      refine k9_pi fX7_add_36 (hr0).1 kp_7_1 ?_
      replace h := lt_some h
      refine t_ret fX7_add_39 rX7_add ?_
      exact qf_v h

theorem tb_X0_work_22 {X : mX} {n z : Nat} {G : mG} {r0 : Nat} (hr0 : is0 G r0) {x2 : Int} {j1 j3 j4 : Option Value} {V V' : mV} {q : Nat × Int} {Q : Nat → Nat → mG → mV → Option Value → Prop} (h0 : q.1 = 0 → ∀ j1 j3 j4 : Option Value, T X (3) 3 22 [some (.ref r0), j1, some (.int (iI q.2)), j3, j4] [] n z G V' Q) (h1 : q.1 = 1 → ∀ j1 j3 j4 : Option Value, T X (3) 3 57 [some (.ref r0), j1, some (.int (iI q.2)), j3, j4] [] n z G V' Q) (h : B_X0_work_22 G r0 x2 V = some (V', q)) : T X (3) 3 22 [some (.ref r0), j1, some (.int (iI x2)), j3, j4] [] n z G V Q := by
  unfold B_X0_work_22 at h
  refine t_l fX0_work_22 rfl rfl rfl rfl ?_
  obtain ⟨g8, h⟩ := gd_some h
  refine k9_if_lt fX0_work_23 rfl g8 (fun c7 => ?_) (fun c7 => ?_)
  · replace h := ite_t (c7) h
    cases h
    exact h1 rfl _ _ _
  · replace h := ite_f (c7) h
    refine t_l fX0_work_26 rfl rfl rfl rfl ?_
    obtain ⟨g9, h⟩ := gd_some h
    refine kcJ6_bitCount_0f7a4 fX0_work_27 rfl (eJ6_bitCount_0f7a4 g9) (by decide) ?_
    replace h := lt_some h
    refine t_l fX0_work_30 rfl rfl rfl rfl ?_
    refine t_l fX0_work_31 rfl rfl rfl rfl ?_
    refine k9_gr fX0_work_32 (hr0).1 kg_0_1 (s0_1r hr0) ?_
    refine t_l fX0_work_35 rfl rfl rfl rfl ?_
    refine t_l fX0_work_36 rfl rfl rfl rfl ?_
    refine t_l fX0_work_37 rfl rfl rfl rfl ?_
    refine t_l fX0_work_38 rfl rfl rfl rfl ?_
    refine t_l fX0_work_39 rfl rfl rfl rfl ?_
    refine t_l fX0_work_40 rfl rfl rfl rfl ?_
    refine t_l fX0_work_41 rfl rfl rfl rfl ?_
    obtain ⟨V11, v12, e13, h⟩ := bd_some h
    refine kcX0_cheapest fX0_work_42 (hr0).1 rfl (q_X0_cheapest (hr0) e13) (by decide) ?_
    obtain ⟨V14, v15, e16, h⟩ := bd_some h
    refine kcX0_costBy fX0_work_45 (hr0).1 rfl (q_X0_costBy (hr0) e16) (by decide) ?_
    obtain ⟨V17, v18, e19, h⟩ := bd_some h
    refine kcX7_put fX0_work_48 (s0_1s hr0).1 rfl (q_X7_put (s0_1s hr0) e19) (by decide) ?_
    replace h := lt_some h
    refine k9_iinc fX0_work_51 rfl (Nat.le_of_ble_eq_true rfl) rfl ?_
    refine k9_goto fX0_work_54 rfl ?_
    cases h
    exact h0 rfl _ _ _

theorem tl_X0_work_22 {X : mX} {n z : Nat} {G : mG} {r0 : Nat} (hr0 : is0 G r0) {x2 : Int} {j1 j3 j4 : Option Value} {V V' : mV} {fu : Nat} {q : Nat × Int} {Q : Nat → Nat → mG → mV → Option Value → Prop} (k1 : q.1 = 1 → ∀ j1 j3 j4 : Option Value, T X (3) 3 57 [some (.ref r0), j1, some (.int (iI q.2)), j3, j4] [] n z G V' Q) (h : lp (fun (s : Int) V => B_X0_work_22 G r0 s V) fu x2 V = some (V', q)) : T X (3) 3 22 [some (.ref r0), j1, some (.int (iI x2)), j3, j4] [] n z G V Q :=
  lp_go (P0 := fun s V => ∀ j1 j3 j4 : Option Value, T X (3) 3 22 [some (.ref r0), j1, some (.int (iI s)), j3, j4] [] n z G V Q) (PE := fun t s V => (t = 1 → ∀ j1 j3 j4 : Option Value, T X (3) 3 57 [some (.ref r0), j1, some (.int (iI s)), j3, j4] [] n z G V Q)) (fun s V V' q hb h0 h1 => fun _ _ _ => tb_X0_work_22 hr0  h0 (fun e => (h1 (by omega)) e) hb) fu x2 V V' q h k1 _ _ _

theorem tb_X0_work_61 {X : mX} {n z : Nat} {G : mG} {r0 : Nat} (hr0 : is0 G r0) {x2 x3 : Int} {j1 j4 : Option Value} {V V' : mV} {q : Nat × Int × Int} {Q : Nat → Nat → mG → mV → Option Value → Prop} (h0 : q.1 = 0 → ∀ j1 j4 : Option Value, T X (3) 3 61 [some (.ref r0), j1, some (.int (iI q.2.1)), some (.int (iI q.2.2)), j4] [] n z G V' Q) (h1 : q.1 = 1 → ∀ j1 j4 : Option Value, T X (3) 3 99 [some (.ref r0), j1, some (.int (iI q.2.1)), some (.int (iI q.2.2)), j4] [] n z G V' Q) (h : B_X0_work_61 G r0 x2 x3 V = some (V', q)) : T X (3) 3 61 [some (.ref r0), j1, some (.int (iI x2)), some (.int (iI x3)), j4] [] n z G V Q := by
  unfold B_X0_work_61 at h
  refine t_l fX0_work_61 rfl rfl rfl rfl ?_
  refine t_l fX0_work_62 rfl rfl rfl rfl ?_
  refine k9_gi fX0_work_63 (hr0).1 kg_0_3 ?_
  obtain ⟨g26, h⟩ := gd_some h
  obtain ⟨g27, h⟩ := gd_some h
  refine k9_ic_ge fX0_work_66 rfl g26 g27 (fun c25 => ?_) (fun c25 => ?_)
  · replace h := ite_t (c25) h
    cases h
    exact h1 rfl _ _
  · replace h := ite_f (c25) h
    refine t_l fX0_work_69 rfl rfl rfl rfl ?_
    refine t_l fX0_work_70 rfl rfl rfl rfl ?_
    refine t_l fX0_work_71 rfl rfl rfl rfl ?_
    obtain ⟨V28, v29, e30, h⟩ := bd_some h
    refine kcX0_cheapest fX0_work_72 (hr0).1 rfl (q_X0_cheapest (hr0) e30) (by decide) ?_
    refine t_l fX0_work_75 rfl rfl rfl rfl ?_
    refine t_l fX0_work_77 rfl rfl rfl rfl ?_
    refine k9_gr fX0_work_78 (hr0).1 kg_0_2 (s0_2r hr0) ?_
    refine t_l fX0_work_81 rfl rfl rfl rfl ?_
    obtain ⟨V31, v32, e33, h⟩ := bd_some h
    refine kcX7_add fX0_work_83 (s0_2s hr0).1 rfl (q_X7_add (s0_2s hr0) e33) (by decide) ?_
    refine t_l fX0_work_86 rfl rfl rfl rfl ?_
    refine t_s fX0_work_87 rfl rfl rfl ?_
    refine t_l fX0_work_88 rfl rfl rfl rfl ?_
    obtain ⟨g34, h⟩ := gd_some h
    refine k8_ishl fX0_work_90 g34 ?_
    obtain ⟨g35, h⟩ := gd_some h
    refine k8_ior fX0_work_91 g35 ?_
    replace h := lt_some h
    refine t_l fX0_work_92 rfl rfl rfl rfl ?_
    replace h := lt_some h
    refine k9_iinc fX0_work_93 rfl (Nat.le_of_ble_eq_true rfl) rfl ?_
    refine k9_goto fX0_work_96 rfl ?_
    cases h
    exact h0 rfl _ _

theorem tl_X0_work_61 {X : mX} {n z : Nat} {G : mG} {r0 : Nat} (hr0 : is0 G r0) {x2 x3 : Int} {j1 j4 : Option Value} {V V' : mV} {fu : Nat} {q : Nat × Int × Int} {Q : Nat → Nat → mG → mV → Option Value → Prop} (k1 : q.1 = 1 → ∀ j1 j4 : Option Value, T X (3) 3 99 [some (.ref r0), j1, some (.int (iI q.2.1)), some (.int (iI q.2.2)), j4] [] n z G V' Q) (h : lp (fun (s : Int × Int) V => B_X0_work_61 G r0 s.1 s.2 V) fu (x2, x3) V = some (V', q)) : T X (3) 3 61 [some (.ref r0), j1, some (.int (iI x2)), some (.int (iI x3)), j4] [] n z G V Q :=
  lp_go (P0 := fun s V => ∀ j1 j4 : Option Value, T X (3) 3 61 [some (.ref r0), j1, some (.int (iI s.1)), some (.int (iI s.2)), j4] [] n z G V Q) (PE := fun t s V => (t = 1 → ∀ j1 j4 : Option Value, T X (3) 3 99 [some (.ref r0), j1, some (.int (iI s.1)), some (.int (iI s.2)), j4] [] n z G V Q)) (fun s V V' q hb h0 h1 => fun _ _ => tb_X0_work_61 hr0  h0 (fun e => (h1 (by omega)) e) hb) fu (x2, x3) V V' q h k1 _ _

theorem q_X0_work {X : mX} {n z : Nat} {G : mG} {r0 : Nat} (hr0 : is0 G r0) {V V' : mV} {v : Int} (h : F_X0_work G r0 V = some (V', v)) : Rn X (3) 3 [.ref r0] n z G V n z G V' none := by
  refine qv_toR (v := v) (L := [some (.ref r0), none, none, none, none]) rfl ?_
  unfold F_X0_work at h
  refine t_s fX0_work_0 rfl rfl rfl ?_
  refine t_l fX0_work_1 rfl rfl rfl rfl ?_
  refine k9_gi fX0_work_2 (hr0).1 kg_0_3 ?_
  obtain ⟨g1, h⟩ := gd_some h
  refine k8_ishl fX0_work_5 g1 ?_
  refine t_s fX0_work_6 rfl rfl rfl ?_
  refine k9_isub fX0_work_7 ?_
  replace h := lt_some h
  refine t_l fX0_work_8 rfl rfl rfl rfl ?_
  refine t_l fX0_work_9 rfl rfl rfl rfl ?_
  refine k9_gr fX0_work_10 (hr0).1 kg_0_1 (s0_1r hr0) ?_
  refine t_l fX0_work_13 rfl rfl rfl rfl ?_
  refine t_s fX0_work_14 rfl rfl rfl ?_
  obtain ⟨V3, v4, e5, h⟩ := bd_some h
  refine kcX7_put fX0_work_15 (s0_1s hr0).1 rfl (q_X7_put (s0_1s hr0) e5) (by decide) ?_
  refine t_l fX0_work_18 rfl rfl rfl rfl ?_
  refine t_s fX0_work_19 rfl rfl rfl ?_
  refine k9_isub fX0_work_20 ?_
  replace h := lt_some h
  refine t_l fX0_work_21 rfl rfl rfl rfl ?_
  obtain ⟨V21, u22, e23, h⟩ := bd_some h
  refine tl_X0_work_22 hr0  (fun e24 j1 j3 j4 => ?_) e23
  refine t_s fX0_work_57 rfl rfl rfl ?_
  refine t_l fX0_work_58 rfl rfl rfl rfl ?_
  refine t_s fX0_work_59 rfl rfl rfl ?_
  refine t_l fX0_work_60 rfl rfl rfl rfl ?_
  obtain ⟨V38, u39, e40, h⟩ := bd_some h
  refine tl_X0_work_61 hr0  (fun e41 j1 j4 => ?_) e40
  refine t_ret fX0_work_99 rX0_work ?_
  exact qf_v h

theorem q_X0_cost {X : mX} {n z : Nat} {G : mG} {r0 : Nat} (hr0 : is0 G r0) {V V' : mV} {v : Int} (h : F_X0_cost G r0 V = some (V', v)) : Rn X (1) 4 [.ref r0] n z G V n z G V' (some (.int (iI v))) := by
  refine qi_toR (v := v) (L := [some (.ref r0)]) rfl ?_
  unfold F_X0_cost at h
  refine t_l fX0_cost_0 rfl rfl rfl rfl ?_
  refine k9_gr fX0_cost_1 (hr0).1 kg_0_1 (s0_1r hr0) ?_
  refine t_s fX0_cost_4 rfl rfl rfl ?_
  obtain ⟨V1, v2, e3, h⟩ := bd_some h
  refine kcX7_get fX0_cost_5 (s0_1s hr0).1 rfl (q_X7_get (s0_1s hr0) e3) (by decide) ?_
  refine t_ret fX0_cost_8 rX0_cost ?_
  exact qf_i h

theorem q_X0_whoLives {X : mX} {n z : Nat} {G : mG} {r0 : Nat} (hr0 : is0 G r0) {x1 : Int} {V V' : mV} {v : Int} (h : F_X0_whoLives G r0 x1 V = some (V', v)) : Rn X (1) 5 [.ref r0, .int (iI x1)] n z G V n z G V' (some (.int (iI v))) := by
  refine qi_toR (v := v) (L := [some (.ref r0), some (.int (iI x1))]) rfl ?_
  unfold F_X0_whoLives at h
  refine t_l fX0_whoLives_0 rfl rfl rfl rfl ?_
  refine k9_gr fX0_whoLives_1 (hr0).1 kg_0_2 (s0_2r hr0) ?_
  refine t_l fX0_whoLives_4 rfl rfl rfl rfl ?_
  obtain ⟨V1, v2, e3, h⟩ := bd_some h
  refine kcX7_get fX0_whoLives_5 (s0_2s hr0).1 rfl (q_X7_get (s0_2s hr0) e3) (by decide) ?_
  refine t_ret fX0_whoLives_8 rX0_whoLives ?_
  exact qf_i h

theorem q_X3_clear {X : mX} {n z : Nat} {G : mG} {r0 : Nat} (hr0 : is3 G r0) {V V' : mV} {v : Int} (h : F_X3_clear G r0 V = some (V', v)) : Rn X (1) 35 [.ref r0] n z G V n z G V' none := by
  refine qv_toR (v := v) (L := [some (.ref r0)]) rfl ?_
  unfold F_X3_clear at h
  refine t_l fX3_clear_0 rfl rfl rfl rfl ?_
  refine k9_gr fX3_clear_1 (hr0).1 kg_3_0 (s3_0r hr0) ?_
  refine t_s fX3_clear_4 rfl rfl rfl ?_
  obtain ⟨V1, v2, e3, h⟩ := bd_some h
  refine kcX7_cut fX3_clear_5 (s3_0s hr0).1 rfl (q_X7_cut (s3_0s hr0) e3) (by decide) ?_
  refine t_ret fX3_clear_8 rX3_clear ?_
  exact qf_v h

theorem q_X1_clear {X : mX} {n z : Nat} {G : mG} {r0 : Nat} (hr0 : is1 G r0) {V V' : mV} {v : Int} (h : F_X1_clear G r0 V = some (V', v)) : Rn X (2) 9 [.ref r0] n z G V n z G V' none := by
  refine qv_toR (v := v) (L := [some (.ref r0)]) rfl ?_
  unfold F_X1_clear at h
  refine t_l fX1_clear_0 rfl rfl rfl rfl ?_
  refine k9_gr fX1_clear_1 (hr0).1 kg_1_0 (s1_0r hr0) ?_
  refine t_s fX1_clear_4 rfl rfl rfl ?_
  obtain ⟨V1, v2, e3, h⟩ := bd_some h
  refine kcX7_cut fX1_clear_5 (s1_0s hr0).1 rfl (q_X7_cut (s1_0s hr0) e3) (by decide) ?_
  refine t_l fX1_clear_8 rfl rfl rfl rfl ?_
  refine k9_gr fX1_clear_9 (hr0).1 kg_1_1 (s1_1r hr0) ?_
  refine t_s fX1_clear_12 rfl rfl rfl ?_
  obtain ⟨V4, v5, e6, h⟩ := bd_some h
  refine kcX7_cut fX1_clear_13 (s1_1s hr0).1 rfl (q_X7_cut (s1_1s hr0) e6) (by decide) ?_
  refine t_l fX1_clear_16 rfl rfl rfl rfl ?_
  refine k9_gr fX1_clear_17 (hr0).1 kg_1_2 (s1_2r hr0) ?_
  refine t_s fX1_clear_20 rfl rfl rfl ?_
  obtain ⟨V7, v8, e9, h⟩ := bd_some h
  refine kcX7_cut fX1_clear_21 (s1_2s hr0).1 rfl (q_X7_cut (s1_2s hr0) e9) (by decide) ?_
  refine t_l fX1_clear_24 rfl rfl rfl rfl ?_
  refine k9_gr fX1_clear_25 (hr0).1 kg_1_3 (s1_3r hr0) ?_
  refine t_s fX1_clear_28 rfl rfl rfl ?_
  obtain ⟨V10, v11, e12, h⟩ := bd_some h
  refine kcX7_cut fX1_clear_29 (s1_3s hr0).1 rfl (q_X7_cut (s1_3s hr0) e12) (by decide) ?_
  refine t_l fX1_clear_32 rfl rfl rfl rfl ?_
  refine k9_gr fX1_clear_33 (hr0).1 kg_1_4 (s1_4r hr0) ?_
  refine t_s fX1_clear_36 rfl rfl rfl ?_
  refine t_s fX1_clear_38 rfl rfl rfl ?_
  obtain ⟨V13, v14, e15, h⟩ := bd_some h
  refine kcX7_fill fX1_clear_39 (s1_4s hr0).1 rfl (q_X7_fill (s1_4s hr0) e15) (by decide) ?_
  refine t_l fX1_clear_42 rfl rfl rfl rfl ?_
  refine k9_gr fX1_clear_43 (hr0).1 kg_1_5 (s1_5r hr0) ?_
  refine t_s fX1_clear_46 rfl rfl rfl ?_
  obtain ⟨V16, v17, e18, h⟩ := bd_some h
  refine kcX7_cut fX1_clear_47 (s1_5s hr0).1 rfl (q_X7_cut (s1_5s hr0) e18) (by decide) ?_
  refine t_l fX1_clear_50 rfl rfl rfl rfl ?_
  refine k9_gr fX1_clear_51 (hr0).1 kg_1_6 (s1_6r hr0) ?_
  refine t_s fX1_clear_54 rfl rfl rfl ?_
  obtain ⟨V19, v20, e21, h⟩ := bd_some h
  refine kcX7_cut fX1_clear_55 (s1_6s hr0).1 rfl (q_X7_cut (s1_6s hr0) e21) (by decide) ?_
  refine t_l fX1_clear_58 rfl rfl rfl rfl ?_
  refine k9_gr fX1_clear_59 (hr0).1 kg_1_7 (s1_7r hr0) ?_
  refine t_s fX1_clear_62 rfl rfl rfl ?_
  obtain ⟨V22, v23, e24, h⟩ := bd_some h
  refine kcX7_cut fX1_clear_63 (s1_7s hr0).1 rfl (q_X7_cut (s1_7s hr0) e24) (by decide) ?_
  refine t_l fX1_clear_66 rfl rfl rfl rfl ?_
  refine k9_gr fX1_clear_67 (hr0).1 kg_1_8 (s1_8r hr0) ?_
  refine t_s fX1_clear_70 rfl rfl rfl ?_
  obtain ⟨V25, v26, e27, h⟩ := bd_some h
  refine kcX7_cut fX1_clear_71 (s1_8s hr0).1 rfl (q_X7_cut (s1_8s hr0) e27) (by decide) ?_
  refine t_l fX1_clear_74 rfl rfl rfl rfl ?_
  refine k9_gr fX1_clear_75 (hr0).1 kg_1_9 (s1_9r hr0) ?_
  refine t_s fX1_clear_78 rfl rfl rfl ?_
  obtain ⟨V28, v29, e30, h⟩ := bd_some h
  refine kcX7_cut fX1_clear_79 (s1_9s hr0).1 rfl (q_X7_cut (s1_9s hr0) e30) (by decide) ?_
  refine t_l fX1_clear_82 rfl rfl rfl rfl ?_
  refine k9_gr fX1_clear_83 (hr0).1 kg_1_10 (s1_10r hr0) ?_
  obtain ⟨V31, v32, e33, h⟩ := bd_some h
  refine kcX3_clear fX1_clear_86 (s1_10s hr0).1 rfl (q_X3_clear (s1_10s hr0) e33) (by decide) ?_
  refine t_l fX1_clear_89 rfl rfl rfl rfl ?_
  refine k9_gr fX1_clear_90 (hr0).1 kg_1_11 (s1_11r hr0) ?_
  obtain ⟨V34, v35, e36, h⟩ := bd_some h
  refine kcX3_clear fX1_clear_93 (s1_11s hr0).1 rfl (q_X3_clear (s1_11s hr0) e36) (by decide) ?_
  refine t_l fX1_clear_96 rfl rfl rfl rfl ?_
  refine k9_gr fX1_clear_97 (hr0).1 kg_1_12 (s1_12r hr0) ?_
  obtain ⟨V37, v38, e39, h⟩ := bd_some h
  refine kcX3_clear fX1_clear_100 (s1_12s hr0).1 rfl (q_X3_clear (s1_12s hr0) e39) (by decide) ?_
  refine t_l fX1_clear_103 rfl rfl rfl rfl ?_
  refine k9_gr fX1_clear_104 (hr0).1 kg_1_13 (s1_13r hr0) ?_
  obtain ⟨V40, v41, e42, h⟩ := bd_some h
  refine kcX3_clear fX1_clear_107 (s1_13s hr0).1 rfl (q_X3_clear (s1_13s hr0) e42) (by decide) ?_
  refine t_l fX1_clear_110 rfl rfl rfl rfl ?_
  refine t_s fX1_clear_111 rfl rfl rfl ?_
  refine k9_pi fX1_clear_112 (hr0).1 kp_1_14 ?_
  replace h := lt_some h
  refine t_ret fX1_clear_115 rX1_clear ?_
  exact qf_v h

theorem tb_X7_find_2 {X : mX} {n z : Nat} {G : mG} {r0 : Nat} (hr0 : is7 G r0) {x1 x2 : Int} {V V' : mV} {q : Nat × Int} {Q : Nat → Nat → mG → mV → Option Value → Prop} (h0 : q.1 = 0 → T X (1) 103 2 [some (.ref r0), some (.int (iI x1)), some (.int (iI q.2))] [] n z G V' Q) (h1 : q.1 = 1 → T X (1) 103 19 [some (.ref r0), some (.int (iI x1)), some (.int (iI q.2))] [] n z G V' Q) (h2 : q.1 = 2 → T X (1) 103 27 [some (.ref r0), some (.int (iI x1)), some (.int (iI q.2))] [] n z G V' Q) (h : B_X7_find_2 G r0 x1 x2 V = some (V', q)) : T X (1) 103 2 [some (.ref r0), some (.int (iI x1)), some (.int (iI x2))] [] n z G V Q := by
  unfold B_X7_find_2 at h
  refine t_l fX7_find_2 rfl rfl rfl rfl ?_
  refine t_l fX7_find_3 rfl rfl rfl rfl ?_
  refine k9_gi fX7_find_4 (hr0).1 kg_7_1 ?_
  obtain ⟨g2, h⟩ := gd_some h
  obtain ⟨g3, h⟩ := gd_some h
  refine k9_ic_ge fX7_find_7 rfl g2 g3 (fun c1 => ?_) (fun c1 => ?_)
  · replace h := ite_t (c1) h
    cases h
    exact h2 rfl
  · replace h := ite_f (c1) h
    refine t_l fX7_find_10 rfl rfl rfl rfl ?_
    refine t_l fX7_find_11 rfl rfl rfl rfl ?_
    obtain ⟨V4, v5, e6, h⟩ := bd_some h
    refine kcX7_get fX7_find_12 (hr0).1 rfl (q_X7_get (hr0) e6) (by decide) ?_
    refine t_l fX7_find_15 rfl rfl rfl rfl ?_
    obtain ⟨g8, h⟩ := gd_some h
    obtain ⟨g9, h⟩ := gd_some h
    refine k9_ic_ne fX7_find_16 rfl g8 g9 (fun c7 => ?_) (fun c7 => ?_)
    · replace h := ite_f (c7) h
      replace h := lt_some h
      refine k9_iinc fX7_find_21 rfl (Nat.le_of_ble_eq_true rfl) rfl ?_
      refine k9_goto fX7_find_24 rfl ?_
      cases h
      exact h0 rfl
    · replace h := ite_t (Classical.not_not.mp c7) h
      cases h
      exact h1 rfl

theorem tl_X7_find_2 {X : mX} {n z : Nat} {G : mG} {r0 : Nat} (hr0 : is7 G r0) {x1 x2 : Int} {V V' : mV} {fu : Nat} {q : Nat × Int} {Q : Nat → Nat → mG → mV → Option Value → Prop} (k1 : q.1 = 1 → T X (1) 103 19 [some (.ref r0), some (.int (iI x1)), some (.int (iI q.2))] [] n z G V' Q) (k2 : q.1 = 2 → T X (1) 103 27 [some (.ref r0), some (.int (iI x1)), some (.int (iI q.2))] [] n z G V' Q) (h : lp (fun (s : Int) V => B_X7_find_2 G r0 x1 s V) fu x2 V = some (V', q)) : T X (1) 103 2 [some (.ref r0), some (.int (iI x1)), some (.int (iI x2))] [] n z G V Q :=
  lp_go (P0 := fun s V => T X (1) 103 2 [some (.ref r0), some (.int (iI x1)), some (.int (iI s))] [] n z G V Q) (PE := fun t s V => (t = 1 → T X (1) 103 19 [some (.ref r0), some (.int (iI x1)), some (.int (iI s))] [] n z G V Q) ∧ (t = 2 → T X (1) 103 27 [some (.ref r0), some (.int (iI x1)), some (.int (iI s))] [] n z G V Q)) (fun s V V' q hb h0 h1 => tb_X7_find_2 hr0  h0 (fun e => (h1 (by omega)).1 e) (fun e => (h1 (by omega)).2 e) hb) fu x2 V V' q h ⟨k1, k2⟩

theorem q_X7_find {X : mX} {n z : Nat} {G : mG} {r0 : Nat} (hr0 : is7 G r0) {x1 : Int} {V V' : mV} {v : Int} (h : F_X7_find G r0 x1 V = some (V', v)) : Rn X (1) 103 [.ref r0, .int (iI x1)] n z G V n z G V' (some (.int (iI v))) := by
  refine qi_toR (v := v) (L := [some (.ref r0), some (.int (iI x1)), none]) rfl ?_
  unfold F_X7_find at h
  refine t_s fX7_find_0 rfl rfl rfl ?_
  refine t_l fX7_find_1 rfl rfl rfl rfl ?_
  obtain ⟨V11, u12, e13, h⟩ := bd_some h
  refine tl_X7_find_2 hr0  (fun e14 => ?_) (fun e14 => ?_) e13
  · replace h := ite_t e14 h
    refine t_l fX7_find_19 rfl rfl rfl rfl ?_
    refine t_ret fX7_find_20 rX7_find ?_
    exact qf_i h
  · replace h := ite_f (by omega) h
    refine t_s fX7_find_27 rfl rfl rfl ?_
    refine t_ret fX7_find_28 rX7_find ?_
    exact qf_i h

theorem q_X1_hasName {X : mX} {n z : Nat} {G : mG} {r0 : Nat} (hr0 : is1 G r0) {x1 : Int} {V V' : mV} {v : Int} (h : F_X1_hasName G r0 x1 V = some (V', v)) : Rn X (2) 10 [.ref r0, .int (iI x1)] n z G V n z G V' (some (.int (iI v))) := by
  refine qi_toR (v := v) (L := [some (.ref r0), some (.int (iI x1))]) rfl ?_
  unfold F_X1_hasName at h
  refine t_l fX1_hasName_0 rfl rfl rfl rfl ?_
  refine k9_gr fX1_hasName_1 (hr0).1 kg_1_0 (s1_0r hr0) ?_
  refine t_l fX1_hasName_4 rfl rfl rfl rfl ?_
  obtain ⟨V1, v2, e3, h⟩ := bd_some h
  refine kcX7_find fX1_hasName_5 (s1_0s hr0).1 rfl (q_X7_find (s1_0s hr0) e3) (by decide) ?_
  refine t_s fX1_hasName_8 rfl rfl rfl ?_
  obtain ⟨g5, h⟩ := gd_some h
  refine k9_ic_ne fX1_hasName_9 rfl g5 ⟨by decide, by decide⟩ (fun c4 => ?_) (fun c4 => ?_)
  · replace h := ite_f (c4) h
    refine t_s fX1_hasName_24 rfl rfl rfl ?_
    refine k9_goto fX1_hasName_25 rfl ?_
    refine t_ret fX1_hasName_29 (rX1_hasName _ (by decide)) ?_
    exact qf_i h
  · replace h := ite_t (Classical.not_not.mp c4) h
    refine t_l fX1_hasName_12 rfl rfl rfl rfl ?_
    refine k9_gr fX1_hasName_13 (hr0).1 kg_1_5 (s1_5r hr0) ?_
    refine t_l fX1_hasName_16 rfl rfl rfl rfl ?_
    obtain ⟨V6, v7, e8, h⟩ := bd_some h
    refine kcX7_find fX1_hasName_17 (s1_5s hr0).1 rfl (q_X7_find (s1_5s hr0) e8) (by decide) ?_
    refine t_s fX1_hasName_20 rfl rfl rfl ?_
    obtain ⟨g10, h⟩ := gd_some h
    refine k9_ic_eq fX1_hasName_21 rfl g10 ⟨by decide, by decide⟩ (fun c9 => ?_) (fun c9 => ?_)
    · replace h := ite_t (c9) h
      refine t_s fX1_hasName_28 rfl rfl rfl ?_
      refine t_ret fX1_hasName_29 (rX1_hasName _ (by decide)) ?_
      exact qf_i h
    · replace h := ite_f (c9) h
      refine t_s fX1_hasName_24 rfl rfl rfl ?_
      refine k9_goto fX1_hasName_25 rfl ?_
      refine t_ret fX1_hasName_29 (rX1_hasName _ (by decide)) ?_
      exact qf_i h

theorem q_X7_size {X : mX} {n z : Nat} {G : mG} {r0 : Nat} (hr0 : is7 G r0) {V V' : mV} {v : Int} (h : F_X7_size G r0 V = some (V', v)) : Rn X (0) 95 [.ref r0] n z G V n z G V' (some (.int (iI v))) := by
  refine qi_toR (v := v) (L := [some (.ref r0)]) rfl ?_
  unfold F_X7_size at h
  refine t_l fX7_size_0 rfl rfl rfl rfl ?_
  refine k9_gi fX7_size_1 (hr0).1 kg_7_1 ?_
  refine t_ret fX7_size_4 rX7_size ?_
  exact qf_i h

theorem q_X1_addPerson {X : mX} {n z : Nat} {G : mG} {r0 : Nat} (hr0 : is1 G r0) {x1 x2 : Int} {V V' : mV} {v : Int} (h : F_X1_addPerson G r0 x1 x2 V = some (V', v)) : Rn X (1) 11 [.ref r0, .int (iI x1), .int (iI x2)] n z G V n z G V' none := by
  refine qv_toR (v := v) (L := [some (.ref r0), some (.int (iI x1)), some (.int (iI x2)), none]) rfl ?_
  unfold F_X1_addPerson at h
  refine t_l fX1_addPerson_0 rfl rfl rfl rfl ?_
  refine k9_gr fX1_addPerson_1 (hr0).1 kg_1_0 (s1_0r hr0) ?_
  obtain ⟨V1, v2, e3, h⟩ := bd_some h
  refine kcX7_size fX1_addPerson_4 (s1_0s hr0).1 rfl (q_X7_size (s1_0s hr0) e3) (by decide) ?_
  refine t_l fX1_addPerson_7 rfl rfl rfl rfl ?_
  refine t_l fX1_addPerson_8 rfl rfl rfl rfl ?_
  refine k9_gr fX1_addPerson_9 (hr0).1 kg_1_0 (s1_0r hr0) ?_
  refine t_l fX1_addPerson_12 rfl rfl rfl rfl ?_
  obtain ⟨V4, v5, e6, h⟩ := bd_some h
  refine kcX7_add fX1_addPerson_13 (s1_0s hr0).1 rfl (q_X7_add (s1_0s hr0) e6) (by decide) ?_
  refine t_l fX1_addPerson_16 rfl rfl rfl rfl ?_
  refine k9_gr fX1_addPerson_17 (hr0).1 kg_1_1 (s1_1r hr0) ?_
  refine t_l fX1_addPerson_20 rfl rfl rfl rfl ?_
  obtain ⟨V7, v8, e9, h⟩ := bd_some h
  refine kcX7_add fX1_addPerson_21 (s1_1s hr0).1 rfl (q_X7_add (s1_1s hr0) e9) (by decide) ?_
  refine t_l fX1_addPerson_24 rfl rfl rfl rfl ?_
  refine k9_gr fX1_addPerson_25 (hr0).1 kg_1_2 (s1_2r hr0) ?_
  refine t_s fX1_addPerson_28 rfl rfl rfl ?_
  obtain ⟨V10, v11, e12, h⟩ := bd_some h
  refine kcX7_add fX1_addPerson_29 (s1_2s hr0).1 rfl (q_X7_add (s1_2s hr0) e12) (by decide) ?_
  refine t_l fX1_addPerson_32 rfl rfl rfl rfl ?_
  refine k9_gr fX1_addPerson_33 (hr0).1 kg_1_3 (s1_3r hr0) ?_
  refine t_s fX1_addPerson_36 rfl rfl rfl ?_
  obtain ⟨V13, v14, e15, h⟩ := bd_some h
  refine kcX7_add fX1_addPerson_37 (s1_3s hr0).1 rfl (q_X7_add (s1_3s hr0) e15) (by decide) ?_
  refine t_l fX1_addPerson_40 rfl rfl rfl rfl ?_
  refine k9_gr fX1_addPerson_41 (hr0).1 kg_1_4 (s1_4r hr0) ?_
  refine t_l fX1_addPerson_44 rfl rfl rfl rfl ?_
  refine t_s fX1_addPerson_45 rfl rfl rfl ?_
  refine k9_imul fX1_addPerson_47 ?_
  refine t_l fX1_addPerson_48 rfl rfl rfl rfl ?_
  refine k9_iadd fX1_addPerson_49 ?_
  refine t_s fX1_addPerson_50 rfl rfl rfl ?_
  obtain ⟨V16, v17, e18, h⟩ := bd_some h
  refine kcX7_put fX1_addPerson_52 (s1_4s hr0).1 rfl (q_X7_put (s1_4s hr0) e18) (by decide) ?_
  refine t_ret fX1_addPerson_55 rX1_addPerson ?_
  exact qf_v h

theorem q_X1_addTask {X : mX} {n z : Nat} {G : mG} {r0 : Nat} (hr0 : is1 G r0) {x1 x2 : Int} {V V' : mV} {v : Int} (h : F_X1_addTask G r0 x1 x2 V = some (V', v)) : Rn X (1) 12 [.ref r0, .int (iI x1), .int (iI x2)] n z G V n z G V' none := by
  refine qv_toR (v := v) (L := [some (.ref r0), some (.int (iI x1)), some (.int (iI x2))]) rfl ?_
  unfold F_X1_addTask at h
  refine t_l fX1_addTask_0 rfl rfl rfl rfl ?_
  refine k9_gr fX1_addTask_1 (hr0).1 kg_1_5 (s1_5r hr0) ?_
  refine t_l fX1_addTask_4 rfl rfl rfl rfl ?_
  obtain ⟨V1, v2, e3, h⟩ := bd_some h
  refine kcX7_add fX1_addTask_5 (s1_5s hr0).1 rfl (q_X7_add (s1_5s hr0) e3) (by decide) ?_
  refine t_l fX1_addTask_8 rfl rfl rfl rfl ?_
  refine k9_gr fX1_addTask_9 (hr0).1 kg_1_6 (s1_6r hr0) ?_
  refine t_l fX1_addTask_12 rfl rfl rfl rfl ?_
  obtain ⟨V4, v5, e6, h⟩ := bd_some h
  refine kcX7_add fX1_addTask_13 (s1_6s hr0).1 rfl (q_X7_add (s1_6s hr0) e6) (by decide) ?_
  refine t_ret fX1_addTask_16 rX1_addTask ?_
  exact qf_v h

theorem tj_X1_hasDuty_J46_3 {X : mX} {n z : Nat} {G : mG} {r0 : Nat} (hr0 : is1 G r0) {x1 x2 x3 x4 s0 : Int} {j5 : Option Value} {V V' : mV} {q : Nat × Int} {Q : Nat → Nat → mG → mV → Option Value → Prop} (h0 : q.1 = 0 → ∀ j5 : Option Value, T X (1) 13 3 [some (.ref r0), some (.int (iI x1)), some (.int (iI x2)), some (.int (iI x3)), some (.int (iI q.2)), j5] [] n z G V' Q) (h1 : q.1 = 1 → ∀ j5 : Option Value, T X (1) 13 66 [some (.ref r0), some (.int (iI x1)), some (.int (iI x2)), some (.int (iI x3)), some (.int (iI q.2)), j5] [] n z G V' Q) (h2 : q.1 = 2 → ∀ j5 : Option Value, T X (1) 13 74 [some (.ref r0), some (.int (iI x1)), some (.int (iI x2)), some (.int (iI x3)), some (.int (iI q.2)), j5] [] n z G V' Q) (h : F_X1_hasDuty_J46_3 G r0 x1 x2 x3 x4 s0 V = some (V', q)) : T X (1) 13 46 [some (.ref r0), some (.int (iI x1)), some (.int (iI x2)), some (.int (iI x3)), some (.int (iI x4)), j5] [.int (iI s0)] n z G V Q := by
  unfold F_X1_hasDuty_J46_3 at h
  refine t_l fX1_hasDuty_46 rfl rfl rfl rfl ?_
  refine t_l fX1_hasDuty_48 rfl rfl rfl rfl ?_
  obtain ⟨g14, h⟩ := gd_some h
  refine k9_if_eq fX1_hasDuty_50 rfl g14 (fun c13 => ?_) (fun c13 => ?_)
  · replace h := ite_t (c13) h
    replace h := lt_some h
    refine k9_iinc fX1_hasDuty_68 rfl (Nat.le_of_ble_eq_true rfl) rfl ?_
    refine k9_goto fX1_hasDuty_71 rfl ?_
    cases h
    exact h0 rfl _
  · replace h := ite_f (c13) h
    refine t_l fX1_hasDuty_53 rfl rfl rfl rfl ?_
    refine k9_gr fX1_hasDuty_54 (hr0).1 kg_1_9 (s1_9r hr0) ?_
    refine t_l fX1_hasDuty_57 rfl rfl rfl rfl ?_
    obtain ⟨V16, v17, e18, h⟩ := bd_some h
    refine kcX7_get fX1_hasDuty_59 (s1_9s hr0).1 rfl (q_X7_get (s1_9s hr0) e18) (by decide) ?_
    refine t_l fX1_hasDuty_62 rfl rfl rfl rfl ?_
    obtain ⟨g20, h⟩ := gd_some h
    obtain ⟨g21, h⟩ := gd_some h
    refine k9_ic_ne fX1_hasDuty_63 rfl g20 g21 (fun c19 => ?_) (fun c19 => ?_)
    · replace h := ite_f (c19) h
      replace h := lt_some h
      refine k9_iinc fX1_hasDuty_68 rfl (Nat.le_of_ble_eq_true rfl) rfl ?_
      refine k9_goto fX1_hasDuty_71 rfl ?_
      cases h
      exact h0 rfl _
    · replace h := ite_t (Classical.not_not.mp c19) h
      cases h
      exact h1 rfl _

theorem tj_X1_hasDuty_J45_3 {X : mX} {n z : Nat} {G : mG} {r0 : Nat} (hr0 : is1 G r0) {x1 x2 x3 x4 : Int} {j5 : Option Value} {V V' : mV} {q : Nat × Int} {Q : Nat → Nat → mG → mV → Option Value → Prop} (h0 : q.1 = 0 → ∀ j5 : Option Value, T X (1) 13 3 [some (.ref r0), some (.int (iI x1)), some (.int (iI x2)), some (.int (iI x3)), some (.int (iI q.2)), j5] [] n z G V' Q) (h1 : q.1 = 1 → ∀ j5 : Option Value, T X (1) 13 66 [some (.ref r0), some (.int (iI x1)), some (.int (iI x2)), some (.int (iI x3)), some (.int (iI q.2)), j5] [] n z G V' Q) (h2 : q.1 = 2 → ∀ j5 : Option Value, T X (1) 13 74 [some (.ref r0), some (.int (iI x1)), some (.int (iI x2)), some (.int (iI x3)), some (.int (iI q.2)), j5] [] n z G V' Q) (h : F_X1_hasDuty_J45_3 G r0 x1 x2 x3 x4 V = some (V', q)) : T X (1) 13 45 [some (.ref r0), some (.int (iI x1)), some (.int (iI x2)), some (.int (iI x3)), some (.int (iI x4)), j5] [] n z G V Q := by
  unfold F_X1_hasDuty_J45_3 at h
  refine t_s fX1_hasDuty_45 rfl rfl rfl ?_
  exact tj_X1_hasDuty_J46_3 hr0  h0 h1 h2 h

theorem tb_X1_hasDuty_3 {X : mX} {n z : Nat} {G : mG} {r0 : Nat} (hr0 : is1 G r0) {x1 x2 x3 x4 : Int} {j5 : Option Value} {V V' : mV} {q : Nat × Int} {Q : Nat → Nat → mG → mV → Option Value → Prop} (h0 : q.1 = 0 → ∀ j5 : Option Value, T X (1) 13 3 [some (.ref r0), some (.int (iI x1)), some (.int (iI x2)), some (.int (iI x3)), some (.int (iI q.2)), j5] [] n z G V' Q) (h1 : q.1 = 1 → ∀ j5 : Option Value, T X (1) 13 66 [some (.ref r0), some (.int (iI x1)), some (.int (iI x2)), some (.int (iI x3)), some (.int (iI q.2)), j5] [] n z G V' Q) (h2 : q.1 = 2 → ∀ j5 : Option Value, T X (1) 13 74 [some (.ref r0), some (.int (iI x1)), some (.int (iI x2)), some (.int (iI x3)), some (.int (iI q.2)), j5] [] n z G V' Q) (h : B_X1_hasDuty_3 G r0 x1 x2 x3 x4 V = some (V', q)) : T X (1) 13 3 [some (.ref r0), some (.int (iI x1)), some (.int (iI x2)), some (.int (iI x3)), some (.int (iI x4)), j5] [] n z G V Q := by
  unfold B_X1_hasDuty_3 at h
  refine t_l fX1_hasDuty_3 rfl rfl rfl rfl ?_
  refine t_l fX1_hasDuty_5 rfl rfl rfl rfl ?_
  refine k9_gr fX1_hasDuty_6 (hr0).1 kg_1_7 (s1_7r hr0) ?_
  obtain ⟨V1, v2, e3, h⟩ := bd_some h
  refine kcX7_size fX1_hasDuty_9 (s1_7s hr0).1 rfl (q_X7_size (s1_7s hr0) e3) (by decide) ?_
  obtain ⟨g5, h⟩ := gd_some h
  obtain ⟨g6, h⟩ := gd_some h
  refine k9_ic_ge fX1_hasDuty_12 rfl g5 g6 (fun c4 => ?_) (fun c4 => ?_)
  · replace h := ite_t (c4) h
    cases h
    exact h2 rfl _
  · replace h := ite_f (c4) h
    refine t_l fX1_hasDuty_15 rfl rfl rfl rfl ?_
    refine k9_gr fX1_hasDuty_16 (hr0).1 kg_1_7 (s1_7r hr0) ?_
    refine t_l fX1_hasDuty_19 rfl rfl rfl rfl ?_
    obtain ⟨V7, v8, e9, h⟩ := bd_some h
    refine kcX7_get fX1_hasDuty_21 (s1_7s hr0).1 rfl (q_X7_get (s1_7s hr0) e9) (by decide) ?_
    refine t_l fX1_hasDuty_24 rfl rfl rfl rfl ?_
    obtain ⟨g11, h⟩ := gd_some h
    obtain ⟨g12, h⟩ := gd_some h
    refine k9_ic_ne fX1_hasDuty_25 rfl g11 g12 (fun c10 => ?_) (fun c10 => ?_)
    · replace h := ite_f (c10) h
      exact tj_X1_hasDuty_J45_3 hr0  h0 h1 h2 h
    · replace h := ite_t (Classical.not_not.mp c10) h
      refine t_l fX1_hasDuty_28 rfl rfl rfl rfl ?_
      refine k9_gr fX1_hasDuty_29 (hr0).1 kg_1_8 (s1_8r hr0) ?_
      refine t_l fX1_hasDuty_32 rfl rfl rfl rfl ?_
      obtain ⟨V23, v24, e25, h⟩ := bd_some h
      refine kcX7_get fX1_hasDuty_34 (s1_8s hr0).1 rfl (q_X7_get (s1_8s hr0) e25) (by decide) ?_
      refine t_l fX1_hasDuty_37 rfl rfl rfl rfl ?_
      obtain ⟨g27, h⟩ := gd_some h
      obtain ⟨g28, h⟩ := gd_some h
      refine k9_ic_ne fX1_hasDuty_38 rfl g27 g28 (fun c26 => ?_) (fun c26 => ?_)
      · replace h := ite_f (c26) h
        exact tj_X1_hasDuty_J45_3 hr0  h0 h1 h2 h
      · replace h := ite_t (Classical.not_not.mp c26) h
        refine t_s fX1_hasDuty_41 rfl rfl rfl ?_
        refine k9_goto fX1_hasDuty_42 rfl ?_
        exact tj_X1_hasDuty_J46_3 hr0  h0 h1 h2 h

theorem tl_X1_hasDuty_3 {X : mX} {n z : Nat} {G : mG} {r0 : Nat} (hr0 : is1 G r0) {x1 x2 x3 x4 : Int} {j5 : Option Value} {V V' : mV} {fu : Nat} {q : Nat × Int} {Q : Nat → Nat → mG → mV → Option Value → Prop} (k1 : q.1 = 1 → ∀ j5 : Option Value, T X (1) 13 66 [some (.ref r0), some (.int (iI x1)), some (.int (iI x2)), some (.int (iI x3)), some (.int (iI q.2)), j5] [] n z G V' Q) (k2 : q.1 = 2 → ∀ j5 : Option Value, T X (1) 13 74 [some (.ref r0), some (.int (iI x1)), some (.int (iI x2)), some (.int (iI x3)), some (.int (iI q.2)), j5] [] n z G V' Q) (h : lp (fun (s : Int) V => B_X1_hasDuty_3 G r0 x1 x2 x3 s V) fu x4 V = some (V', q)) : T X (1) 13 3 [some (.ref r0), some (.int (iI x1)), some (.int (iI x2)), some (.int (iI x3)), some (.int (iI x4)), j5] [] n z G V Q :=
  lp_go (P0 := fun s V => ∀ j5 : Option Value, T X (1) 13 3 [some (.ref r0), some (.int (iI x1)), some (.int (iI x2)), some (.int (iI x3)), some (.int (iI s)), j5] [] n z G V Q) (PE := fun t s V => (t = 1 → ∀ j5 : Option Value, T X (1) 13 66 [some (.ref r0), some (.int (iI x1)), some (.int (iI x2)), some (.int (iI x3)), some (.int (iI s)), j5] [] n z G V Q) ∧ (t = 2 → ∀ j5 : Option Value, T X (1) 13 74 [some (.ref r0), some (.int (iI x1)), some (.int (iI x2)), some (.int (iI x3)), some (.int (iI s)), j5] [] n z G V Q)) (fun s V V' q hb h0 h1 => fun _ => tb_X1_hasDuty_3 hr0  h0 (fun e => (h1 (by omega)).1 e) (fun e => (h1 (by omega)).2 e) hb) fu x4 V V' q h ⟨k1, k2⟩ _

theorem q_X1_hasDuty {X : mX} {n z : Nat} {G : mG} {r0 : Nat} (hr0 : is1 G r0) {x1 x2 x3 : Int} {V V' : mV} {v : Int} (h : F_X1_hasDuty G r0 x1 x2 x3 V = some (V', v)) : Rn X (1) 13 [.ref r0, .int (iI x1), .int (iI x2), .int (iI x3)] n z G V n z G V' (some (.int (iI v))) := by
  refine qi_toR (v := v) (L := [some (.ref r0), some (.int (iI x1)), some (.int (iI x2)), some (.int (iI x3)), none, none]) rfl ?_
  unfold F_X1_hasDuty at h
  refine t_s fX1_hasDuty_0 rfl rfl rfl ?_
  refine t_l fX1_hasDuty_1 rfl rfl rfl rfl ?_
  obtain ⟨V29, u30, e31, h⟩ := bd_some h
  refine tl_X1_hasDuty_3 hr0  (fun e32 j5 => ?_) (fun e32 j5 => ?_) e31
  · replace h := ite_t e32 h
    refine t_s fX1_hasDuty_66 rfl rfl rfl ?_
    refine t_ret fX1_hasDuty_67 (rX1_hasDuty _ (by decide)) ?_
    exact qf_i h
  · replace h := ite_f (by omega) h
    refine t_s fX1_hasDuty_74 rfl rfl rfl ?_
    refine t_ret fX1_hasDuty_75 (rX1_hasDuty _ (by decide)) ?_
    exact qf_i h

theorem tb_X7_insert_12 {X : mX} {n z : Nat} {G : mG} {r0 : Nat} (hr0 : is7 G r0) {x1 x2 x3 : Int} {V V' : mV} {q : Nat × Int} {Q : Nat → Nat → mG → mV → Option Value → Prop} (h0 : q.1 = 0 → T X (1) 99 12 [some (.ref r0), some (.int (iI x1)), some (.int (iI x2)), some (.int (iI q.2))] [] n z G V' Q) (h1 : q.1 = 1 → T X (1) 99 35 [some (.ref r0), some (.int (iI x1)), some (.int (iI x2)), some (.int (iI q.2))] [] n z G V' Q) (h : B_X7_insert_12 G r0 x1 x2 x3 V = some (V', q)) : T X (1) 99 12 [some (.ref r0), some (.int (iI x1)), some (.int (iI x2)), some (.int (iI x3))] [] n z G V Q := by
  unfold B_X7_insert_12 at h
  refine t_l fX7_insert_12 rfl rfl rfl rfl ?_
  refine t_l fX7_insert_13 rfl rfl rfl rfl ?_
  obtain ⟨g6, h⟩ := gd_some h
  obtain ⟨g7, h⟩ := gd_some h
  refine k9_ic_le fX7_insert_14 rfl g6 g7 (fun c5 => ?_) (fun c5 => ?_)
  · replace h := ite_t (c5) h
    cases h
    exact h1 rfl
  · replace h := ite_f (c5) h
    refine t_l fX7_insert_17 rfl rfl rfl rfl ?_
    refine t_l fX7_insert_18 rfl rfl rfl rfl ?_
    refine t_l fX7_insert_19 rfl rfl rfl rfl ?_
    refine t_l fX7_insert_20 rfl rfl rfl rfl ?_
    refine t_s fX7_insert_21 rfl rfl rfl ?_
    refine k9_isub fX7_insert_22 ?_
    obtain ⟨V8, v9, e10, h⟩ := bd_some h
    refine kcX7_get fX7_insert_23 (hr0).1 rfl (q_X7_get (hr0) e10) (by decide) ?_
    obtain ⟨V11, v12, e13, h⟩ := bd_some h
    refine kcX7_put fX7_insert_26 (hr0).1 rfl (q_X7_put (hr0) e13) (by decide) ?_
    replace h := lt_some h
    refine k9_iinc fX7_insert_29 rfl (Nat.le_of_ble_eq_true rfl) rfl ?_
    refine k9_goto fX7_insert_32 rfl ?_
    cases h
    exact h0 rfl

theorem tl_X7_insert_12 {X : mX} {n z : Nat} {G : mG} {r0 : Nat} (hr0 : is7 G r0) {x1 x2 x3 : Int} {V V' : mV} {fu : Nat} {q : Nat × Int} {Q : Nat → Nat → mG → mV → Option Value → Prop} (k1 : q.1 = 1 → T X (1) 99 35 [some (.ref r0), some (.int (iI x1)), some (.int (iI x2)), some (.int (iI q.2))] [] n z G V' Q) (h : lp (fun (s : Int) V => B_X7_insert_12 G r0 x1 x2 s V) fu x3 V = some (V', q)) : T X (1) 99 12 [some (.ref r0), some (.int (iI x1)), some (.int (iI x2)), some (.int (iI x3))] [] n z G V Q :=
  lp_go (P0 := fun s V => T X (1) 99 12 [some (.ref r0), some (.int (iI x1)), some (.int (iI x2)), some (.int (iI s))] [] n z G V Q) (PE := fun t s V => (t = 1 → T X (1) 99 35 [some (.ref r0), some (.int (iI x1)), some (.int (iI x2)), some (.int (iI s))] [] n z G V Q)) (fun s V V' q hb h0 h1 => tb_X7_insert_12 hr0  h0 (fun e => (h1 (by omega)) e) hb) fu x3 V V' q h k1

theorem q_X7_insert {X : mX} {n z : Nat} {G : mG} {r0 : Nat} (hr0 : is7 G r0) {x1 x2 : Int} {V V' : mV} {v : Int} (h : F_X7_insert G r0 x1 x2 V = some (V', v)) : Rn X (1) 99 [.ref r0, .int (iI x1), .int (iI x2)] n z G V n z G V' none := by
  refine qv_toR (v := v) (L := [some (.ref r0), some (.int (iI x1)), some (.int (iI x2)), none]) rfl ?_
  unfold F_X7_insert at h
  refine t_l fX7_insert_0 rfl rfl rfl rfl ?_
  refine t_l fX7_insert_1 rfl rfl rfl rfl ?_
  obtain ⟨V1, v2, e3, h⟩ := bd_some h
  refine kcX7_add fX7_insert_2 (hr0).1 rfl (q_X7_add (hr0) e3) (by decide) ?_
  refine t_l fX7_insert_5 rfl rfl rfl rfl ?_
  refine k9_gi fX7_insert_6 (hr0).1 kg_7_1 ?_
  refine t_s fX7_insert_9 rfl rfl rfl ?_
  refine k9_isub fX7_insert_10 ?_
  replace h := lt_some h
  refine t_l fX7_insert_11 rfl rfl rfl rfl ?_
  obtain ⟨V15, u16, e17, h⟩ := bd_some h
  refine tl_X7_insert_12 hr0  (fun e18 => ?_) e17
  refine t_l fX7_insert_35 rfl rfl rfl rfl ?_
  refine t_l fX7_insert_36 rfl rfl rfl rfl ?_
  refine t_l fX7_insert_37 rfl rfl rfl rfl ?_
  obtain ⟨V19, v20, e21, h⟩ := bd_some h
  refine kcX7_put fX7_insert_38 (hr0).1 rfl (q_X7_put (hr0) e21) (by decide) ?_
  refine t_ret fX7_insert_41 rX7_insert ?_
  exact qf_v h

theorem tb_X1_addDuty_6 {X : mX} {n z : Nat} {G : mG} {r0 : Nat} (hr0 : is1 G r0) {x1 x2 x3 x4 x5 : Int} {V V' : mV} {q : Nat × Int × Int} {Q : Nat → Nat → mG → mV → Option Value → Prop} (h0 : q.1 = 0 → T X (2) 14 6 [some (.ref r0), some (.int (iI x1)), some (.int (iI x2)), some (.int (iI x3)), some (.int (iI q.2.1)), some (.int (iI q.2.2))] [] n z G V' Q) (h1 : q.1 = 1 → T X (2) 14 43 [some (.ref r0), some (.int (iI x1)), some (.int (iI x2)), some (.int (iI x3)), some (.int (iI q.2.1)), some (.int (iI q.2.2))] [] n z G V' Q) (h : B_X1_addDuty_6 G r0 x1 x2 x3 x4 x5 V = some (V', q)) : T X (2) 14 6 [some (.ref r0), some (.int (iI x1)), some (.int (iI x2)), some (.int (iI x3)), some (.int (iI x4)), some (.int (iI x5))] [] n z G V Q := by
  unfold B_X1_addDuty_6 at h
  refine t_l fX1_addDuty_6 rfl rfl rfl rfl ?_
  refine t_l fX1_addDuty_8 rfl rfl rfl rfl ?_
  refine k9_gr fX1_addDuty_9 (hr0).1 kg_1_7 (s1_7r hr0) ?_
  obtain ⟨V1, v2, e3, h⟩ := bd_some h
  refine kcX7_size fX1_addDuty_12 (s1_7s hr0).1 rfl (q_X7_size (s1_7s hr0) e3) (by decide) ?_
  obtain ⟨g5, h⟩ := gd_some h
  obtain ⟨g6, h⟩ := gd_some h
  refine k9_ic_ge fX1_addDuty_15 rfl g5 g6 (fun c4 => ?_) (fun c4 => ?_)
  · replace h := ite_t (c4) h
    cases h
    exact h1 rfl
  · replace h := ite_f (c4) h
    refine t_l fX1_addDuty_18 rfl rfl rfl rfl ?_
    refine k9_gr fX1_addDuty_19 (hr0).1 kg_1_7 (s1_7r hr0) ?_
    refine t_l fX1_addDuty_22 rfl rfl rfl rfl ?_
    obtain ⟨V7, v8, e9, h⟩ := bd_some h
    refine kcX7_get fX1_addDuty_24 (s1_7s hr0).1 rfl (q_X7_get (s1_7s hr0) e9) (by decide) ?_
    refine t_l fX1_addDuty_27 rfl rfl rfl rfl ?_
    obtain ⟨g11, h⟩ := gd_some h
    obtain ⟨g12, h⟩ := gd_some h
    refine k9_ic_gt fX1_addDuty_28 rfl g11 g12 (fun c10 => ?_) (fun c10 => ?_)
    · replace h := ite_t (c10) h
      replace h := lt_some h
      refine k9_iinc fX1_addDuty_37 rfl (Nat.le_of_ble_eq_true rfl) rfl ?_
      refine k9_goto fX1_addDuty_40 rfl ?_
      cases h
      exact h0 rfl
    · replace h := ite_f (c10) h
      refine t_l fX1_addDuty_31 rfl rfl rfl rfl ?_
      refine t_s fX1_addDuty_33 rfl rfl rfl ?_
      refine k9_iadd fX1_addDuty_34 ?_
      replace h := lt_some h
      refine t_l fX1_addDuty_35 rfl rfl rfl rfl ?_
      replace h := lt_some h
      refine k9_iinc fX1_addDuty_37 rfl (Nat.le_of_ble_eq_true rfl) rfl ?_
      refine k9_goto fX1_addDuty_40 rfl ?_
      cases h
      exact h0 rfl

theorem tl_X1_addDuty_6 {X : mX} {n z : Nat} {G : mG} {r0 : Nat} (hr0 : is1 G r0) {x1 x2 x3 x4 x5 : Int} {V V' : mV} {fu : Nat} {q : Nat × Int × Int} {Q : Nat → Nat → mG → mV → Option Value → Prop} (k1 : q.1 = 1 → T X (2) 14 43 [some (.ref r0), some (.int (iI x1)), some (.int (iI x2)), some (.int (iI x3)), some (.int (iI q.2.1)), some (.int (iI q.2.2))] [] n z G V' Q) (h : lp (fun (s : Int × Int) V => B_X1_addDuty_6 G r0 x1 x2 x3 s.1 s.2 V) fu (x4, x5) V = some (V', q)) : T X (2) 14 6 [some (.ref r0), some (.int (iI x1)), some (.int (iI x2)), some (.int (iI x3)), some (.int (iI x4)), some (.int (iI x5))] [] n z G V Q :=
  lp_go (P0 := fun s V => T X (2) 14 6 [some (.ref r0), some (.int (iI x1)), some (.int (iI x2)), some (.int (iI x3)), some (.int (iI s.1)), some (.int (iI s.2))] [] n z G V Q) (PE := fun t s V => (t = 1 → T X (2) 14 43 [some (.ref r0), some (.int (iI x1)), some (.int (iI x2)), some (.int (iI x3)), some (.int (iI s.1)), some (.int (iI s.2))] [] n z G V Q)) (fun s V V' q hb h0 h1 => tb_X1_addDuty_6 hr0  h0 (fun e => (h1 (by omega)) e) hb) fu (x4, x5) V V' q h k1

theorem q_X1_addDuty {X : mX} {n z : Nat} {G : mG} {r0 : Nat} (hr0 : is1 G r0) {x1 x2 x3 : Int} {V V' : mV} {v : Int} (h : F_X1_addDuty G r0 x1 x2 x3 V = some (V', v)) : Rn X (2) 14 [.ref r0, .int (iI x1), .int (iI x2), .int (iI x3)] n z G V n z G V' none := by
  refine qv_toR (v := v) (L := [some (.ref r0), some (.int (iI x1)), some (.int (iI x2)), some (.int (iI x3)), none, none]) rfl ?_
  unfold F_X1_addDuty at h
  refine t_s fX1_addDuty_0 rfl rfl rfl ?_
  refine t_l fX1_addDuty_1 rfl rfl rfl rfl ?_
  refine t_s fX1_addDuty_3 rfl rfl rfl ?_
  refine t_l fX1_addDuty_4 rfl rfl rfl rfl ?_
  obtain ⟨V16, u17, e18, h⟩ := bd_some h
  refine tl_X1_addDuty_6 hr0  (fun e19 => ?_) e18
  refine t_l fX1_addDuty_43 rfl rfl rfl rfl ?_
  refine k9_gr fX1_addDuty_44 (hr0).1 kg_1_7 (s1_7r hr0) ?_
  refine t_l fX1_addDuty_47 rfl rfl rfl rfl ?_
  refine t_l fX1_addDuty_49 rfl rfl rfl rfl ?_
  obtain ⟨V20, v21, e22, h⟩ := bd_some h
  refine kcX7_insert fX1_addDuty_50 (s1_7s hr0).1 rfl (q_X7_insert (s1_7s hr0) e22) (by decide) ?_
  refine t_l fX1_addDuty_53 rfl rfl rfl rfl ?_
  refine k9_gr fX1_addDuty_54 (hr0).1 kg_1_8 (s1_8r hr0) ?_
  refine t_l fX1_addDuty_57 rfl rfl rfl rfl ?_
  refine t_l fX1_addDuty_59 rfl rfl rfl rfl ?_
  obtain ⟨V23, v24, e25, h⟩ := bd_some h
  refine kcX7_insert fX1_addDuty_60 (s1_8s hr0).1 rfl (q_X7_insert (s1_8s hr0) e25) (by decide) ?_
  refine t_l fX1_addDuty_63 rfl rfl rfl rfl ?_
  refine k9_gr fX1_addDuty_64 (hr0).1 kg_1_9 (s1_9r hr0) ?_
  refine t_l fX1_addDuty_67 rfl rfl rfl rfl ?_
  refine t_l fX1_addDuty_69 rfl rfl rfl rfl ?_
  obtain ⟨V26, v27, e28, h⟩ := bd_some h
  refine kcX7_insert fX1_addDuty_70 (s1_9s hr0).1 rfl (q_X7_insert (s1_9s hr0) e28) (by decide) ?_
  refine t_ret fX1_addDuty_73 rX1_addDuty ?_
  exact qf_v h

theorem q_X1_sameWard {X : mX} {n z : Nat} {G : mG} {r0 : Nat} (hr0 : is1 G r0) {x1 x2 : Int} {V V' : mV} {v : Int} (h : F_X1_sameWard G r0 x1 x2 V = some (V', v)) : Rn X (1) 15 [.ref r0, .int (iI x1), .int (iI x2)] n z G V n z G V' (some (.int (iI v))) := by
  refine qi_toR (v := v) (L := [some (.ref r0), some (.int (iI x1)), some (.int (iI x2))]) rfl ?_
  unfold F_X1_sameWard at h
  refine t_l fX1_sameWard_0 rfl rfl rfl rfl ?_
  refine k9_gr fX1_sameWard_1 (hr0).1 kg_1_1 (s1_1r hr0) ?_
  refine t_l fX1_sameWard_4 rfl rfl rfl rfl ?_
  obtain ⟨V1, v2, e3, h⟩ := bd_some h
  refine kcX7_get fX1_sameWard_5 (s1_1s hr0).1 rfl (q_X7_get (s1_1s hr0) e3) (by decide) ?_
  refine t_l fX1_sameWard_8 rfl rfl rfl rfl ?_
  refine k9_gr fX1_sameWard_9 (hr0).1 kg_1_1 (s1_1r hr0) ?_
  refine t_l fX1_sameWard_12 rfl rfl rfl rfl ?_
  obtain ⟨V4, v5, e6, h⟩ := bd_some h
  refine kcX7_get fX1_sameWard_13 (s1_1s hr0).1 rfl (q_X7_get (s1_1s hr0) e6) (by decide) ?_
  obtain ⟨g8, h⟩ := gd_some h
  obtain ⟨g9, h⟩ := gd_some h
  refine k9_ic_ne fX1_sameWard_16 rfl g8 g9 (fun c7 => ?_) (fun c7 => ?_)
  · replace h := ite_f (c7) h
    refine t_s fX1_sameWard_23 rfl rfl rfl ?_
    refine t_ret fX1_sameWard_24 (rX1_sameWard _ (by decide)) ?_
    exact qf_i h
  · replace h := ite_t (Classical.not_not.mp c7) h
    refine t_s fX1_sameWard_19 rfl rfl rfl ?_
    refine k9_goto fX1_sameWard_20 rfl ?_
    refine t_ret fX1_sameWard_24 (rX1_sameWard _ (by decide)) ?_
    exact qf_i h

theorem q_X2_forgetFailures {X : mX} {n z : Nat} {G : mG} {r0 : Nat} (hr0 : is2 G r0) {V V' : mV} {v : Int} (h : F_X2_forgetFailures G r0 V = some (V', v)) : Rn X (2) 17 [.ref r0] n z G V n z G V' none := by
  refine qv_toR (v := v) (L := [some (.ref r0)]) rfl ?_
  unfold F_X2_forgetFailures at h
  refine t_l fX2_forgetFailures_0 rfl rfl rfl rfl ?_
  refine k9_gr fX2_forgetFailures_1 (hr0).1 kg_2_3 (s2_3r hr0) ?_
  refine t_s fX2_forgetFailures_4 rfl rfl rfl ?_
  refine t_s fX2_forgetFailures_5 rfl rfl rfl ?_
  obtain ⟨V1, v2, e3, h⟩ := bd_some h
  refine kcX7_fill fX2_forgetFailures_6 (s2_3s hr0).1 rfl (q_X7_fill (s2_3s hr0) e3) (by decide) ?_
  refine t_l fX2_forgetFailures_9 rfl rfl rfl rfl ?_
  refine k9_gr fX2_forgetFailures_10 (hr0).1 kg_2_4 (s2_4r hr0) ?_
  refine t_s fX2_forgetFailures_13 rfl rfl rfl ?_
  obtain ⟨V4, v5, e6, h⟩ := bd_some h
  refine kcX7_cut fX2_forgetFailures_14 (s2_4s hr0).1 rfl (q_X7_cut (s2_4s hr0) e6) (by decide) ?_
  refine t_l fX2_forgetFailures_17 rfl rfl rfl rfl ?_
  refine k9_gr fX2_forgetFailures_18 (hr0).1 kg_2_5 (s2_5r hr0) ?_
  refine t_s fX2_forgetFailures_21 rfl rfl rfl ?_
  refine t_s fX2_forgetFailures_23 rfl rfl rfl ?_
  obtain ⟨V7, v8, e9, h⟩ := bd_some h
  refine kcX7_fill fX2_forgetFailures_24 (s2_5s hr0).1 rfl (q_X7_fill (s2_5s hr0) e9) (by decide) ?_
  refine t_ret fX2_forgetFailures_27 rX2_forgetFailures ?_
  exact qf_v h

theorem tb_X2_sendAway_32 {X : mX} {n z : Nat} {G : mG} {r0 r1 r2 : Nat} (hr0 : is2 G r0) (hr1 : is1 G r1) (hr2 : is4 G r2) {x3 x4 : Int} {j5 : Option Value} {V V' : mV} {q : Nat × Int} {Q : Nat → Nat → mG → mV → Option Value → Prop} (h0 : q.1 = 0 → ∀ j5 : Option Value, T X (1) 18 32 [some (.ref r0), some (.ref r1), some (.ref r2), some (.int (iI x3)), some (.int (iI q.2)), j5] [] n z G V' Q) (h1 : q.1 = 1 → ∀ j5 : Option Value, T X (1) 18 72 [some (.ref r0), some (.ref r1), some (.ref r2), some (.int (iI x3)), some (.int (iI q.2)), j5] [] n z G V' Q) (h2 : q.1 = 2 → ∀ j5 : Option Value, T X (1) 18 107 [some (.ref r0), some (.ref r1), some (.ref r2), some (.int (iI x3)), some (.int (iI q.2)), j5] [] n z G V' Q) (h : B_X2_sendAway_32 G r0 r1 r2 x3 x4 V = some (V', q)) : T X (1) 18 32 [some (.ref r0), some (.ref r1), some (.ref r2), some (.int (iI x3)), some (.int (iI x4)), j5] [] n z G V Q := by
  unfold B_X2_sendAway_32 at h
  refine t_l fX2_sendAway_32 rfl rfl rfl rfl ?_
  refine t_s fX2_sendAway_34 rfl rfl rfl ?_
  obtain ⟨g12, h⟩ := gd_some h
  refine k9_ic_ge fX2_sendAway_36 rfl g12 ⟨by decide, by decide⟩ (fun c11 => ?_) (fun c11 => ?_)
  · replace h := ite_t (c11) h
    cases h
    exact h2 rfl _
  · replace h := ite_f (c11) h
    refine t_l fX2_sendAway_39 rfl rfl rfl rfl ?_
    refine k9_gr fX2_sendAway_40 (hr1).1 kg_1_3 (s1_3r hr1) ?_
    refine t_l fX2_sendAway_43 rfl rfl rfl rfl ?_
    refine k9_gi fX2_sendAway_44 (hr0).1 kg_2_2 ?_
    obtain ⟨V13, v14, e15, h⟩ := bd_some h
    refine kcX7_get fX2_sendAway_47 (s1_3s hr1).1 rfl (q_X7_get (s1_3s hr1) e15) (by decide) ?_
    refine t_l fX2_sendAway_50 rfl rfl rfl rfl ?_
    refine t_l fX2_sendAway_52 rfl rfl rfl rfl ?_
    refine t_s fX2_sendAway_54 rfl rfl rfl ?_
    obtain ⟨g17, h⟩ := gd_some h
    refine k9_ic_eq fX2_sendAway_55 rfl g17 ⟨by decide, by decide⟩ (fun c16 => ?_) (fun c16 => ?_)
    · replace h := ite_t (c16) h
      cases h
      exact h1 rfl _
    · replace h := ite_f (c16) h
      refine t_l fX2_sendAway_58 rfl rfl rfl rfl ?_
      refine k9_gr fX2_sendAway_59 (hr2).1 kg_4_1 (s4_1r hr2) ?_
      refine t_l fX2_sendAway_62 rfl rfl rfl rfl ?_
      obtain ⟨V18, v19, e20, h⟩ := bd_some h
      refine kcX7_get fX2_sendAway_64 (s4_1s hr2).1 rfl (q_X7_get (s4_1s hr2) e20) (by decide) ?_
      refine t_l fX2_sendAway_67 rfl rfl rfl rfl ?_
      obtain ⟨g22, h⟩ := gd_some h
      refine k9_ic_eq fX2_sendAway_69 rfl g22 g17 (fun c21 => ?_) (fun c21 => ?_)
      · replace h := ite_t (c21) h
        refine t_l fX2_sendAway_73 rfl rfl rfl rfl ?_
        refine k9_gr fX2_sendAway_74 (hr2).1 kg_4_1 (s4_1r hr2) ?_
        refine t_l fX2_sendAway_77 rfl rfl rfl rfl ?_
        refine t_l fX2_sendAway_79 rfl rfl rfl rfl ?_
        refine k9_gi fX2_sendAway_80 (hr0).1 kg_2_2 ?_
        obtain ⟨V23, v24, e25, h⟩ := bd_some h
        refine kcX7_put fX2_sendAway_83 (s4_1s hr2).1 rfl (q_X7_put (s4_1s hr2) e25) (by decide) ?_
        refine t_l fX2_sendAway_86 rfl rfl rfl rfl ?_
        refine k9_gr fX2_sendAway_87 (hr0).1 kg_2_1 (s2_1r hr0) ?_
        refine t_l fX2_sendAway_90 rfl rfl rfl rfl ?_
        obtain ⟨V26, v27, e28, h⟩ := bd_some h
        refine kcX7_add fX2_sendAway_92 (s2_1s hr0).1 rfl (q_X7_add (s2_1s hr0) e28) (by decide) ?_
        refine t_l fX2_sendAway_95 rfl rfl rfl rfl ?_
        refine t_l fX2_sendAway_96 rfl rfl rfl rfl ?_
        refine k9_pi fX2_sendAway_98 (hr0).1 kp_2_2 ?_
        replace h := lt_some h
        replace h := lt_some h
        refine k9_iinc fX2_sendAway_101 rfl (Nat.le_of_ble_eq_true rfl) rfl ?_
        refine k9_goto fX2_sendAway_104 rfl ?_
        cases h
        exact h0 rfl _
      · replace h := ite_f (c21) h
        cases h
        exact h1 rfl _

theorem tl_X2_sendAway_32 {X : mX} {n z : Nat} {G : mG} {r0 r1 r2 : Nat} (hr0 : is2 G r0) (hr1 : is1 G r1) (hr2 : is4 G r2) {x3 x4 : Int} {j5 : Option Value} {V V' : mV} {fu : Nat} {q : Nat × Int} {Q : Nat → Nat → mG → mV → Option Value → Prop} (k1 : q.1 = 1 → ∀ j5 : Option Value, T X (1) 18 72 [some (.ref r0), some (.ref r1), some (.ref r2), some (.int (iI x3)), some (.int (iI q.2)), j5] [] n z G V' Q) (k2 : q.1 = 2 → ∀ j5 : Option Value, T X (1) 18 107 [some (.ref r0), some (.ref r1), some (.ref r2), some (.int (iI x3)), some (.int (iI q.2)), j5] [] n z G V' Q) (h : lp (fun (s : Int) V => B_X2_sendAway_32 G r0 r1 r2 x3 s V) fu x4 V = some (V', q)) : T X (1) 18 32 [some (.ref r0), some (.ref r1), some (.ref r2), some (.int (iI x3)), some (.int (iI x4)), j5] [] n z G V Q :=
  lp_go (P0 := fun s V => ∀ j5 : Option Value, T X (1) 18 32 [some (.ref r0), some (.ref r1), some (.ref r2), some (.int (iI x3)), some (.int (iI s)), j5] [] n z G V Q) (PE := fun t s V => (t = 1 → ∀ j5 : Option Value, T X (1) 18 72 [some (.ref r0), some (.ref r1), some (.ref r2), some (.int (iI x3)), some (.int (iI s)), j5] [] n z G V Q) ∧ (t = 2 → ∀ j5 : Option Value, T X (1) 18 107 [some (.ref r0), some (.ref r1), some (.ref r2), some (.int (iI x3)), some (.int (iI s)), j5] [] n z G V Q)) (fun s V V' q hb h0 h1 => fun _ => tb_X2_sendAway_32 hr0 hr1 hr2  h0 (fun e => (h1 (by omega)).1 e) (fun e => (h1 (by omega)).2 e) hb) fu x4 V V' q h ⟨k1, k2⟩ _

theorem q_X2_sendAway {X : mX} {n z : Nat} {G : mG} {r0 r1 r2 : Nat} (hr0 : is2 G r0) (hr1 : is1 G r1) (hr2 : is4 G r2) {x3 : Int} {V V' : mV} {v : Int} (h : F_X2_sendAway G r0 r1 r2 x3 V = some (V', v)) : Rn X (1) 18 [.ref r0, .ref r1, .ref r2, .int (iI x3)] n z G V n z G V' none := by
  refine qv_toR (v := v) (L := [some (.ref r0), some (.ref r1), some (.ref r2), some (.int (iI x3)), none, none]) rfl ?_
  unfold F_X2_sendAway at h
  refine t_l fX2_sendAway_0 rfl rfl rfl rfl ?_
  refine k9_gr fX2_sendAway_1 (hr0).1 kg_2_1 (s2_1r hr0) ?_
  refine t_s fX2_sendAway_4 rfl rfl rfl ?_
  obtain ⟨V1, v2, e3, h⟩ := bd_some h
  refine kcX7_cut fX2_sendAway_5 (s2_1s hr0).1 rfl (q_X7_cut (s2_1s hr0) e3) (by decide) ?_
  refine t_l fX2_sendAway_8 rfl rfl rfl rfl ?_
  refine t_l fX2_sendAway_9 rfl rfl rfl rfl ?_
  refine k9_gr fX2_sendAway_10 (hr2).1 kg_4_1 (s4_1r hr2) ?_
  refine t_l fX2_sendAway_13 rfl rfl rfl rfl ?_
  obtain ⟨V4, v5, e6, h⟩ := bd_some h
  refine kcX7_get fX2_sendAway_14 (s4_1s hr2).1 rfl (q_X7_get (s4_1s hr2) e6) (by decide) ?_
  refine k9_pi fX2_sendAway_17 (hr0).1 kp_2_2 ?_
  replace h := lt_some h
  refine t_l fX2_sendAway_20 rfl rfl rfl rfl ?_
  refine k9_gr fX2_sendAway_21 (hr2).1 kg_4_1 (s4_1r hr2) ?_
  refine t_l fX2_sendAway_24 rfl rfl rfl rfl ?_
  refine t_s fX2_sendAway_25 rfl rfl rfl ?_
  obtain ⟨V8, v9, e10, h⟩ := bd_some h
  refine kcX7_put fX2_sendAway_26 (s4_1s hr2).1 rfl (q_X7_put (s4_1s hr2) e10) (by decide) ?_
  refine t_s fX2_sendAway_29 rfl rfl rfl ?_
  refine t_l fX2_sendAway_30 rfl rfl rfl rfl ?_
  obtain ⟨V31, u32, e33, h⟩ := bd_some h
  refine tl_X2_sendAway_32 hr0 hr1 hr2  (fun e34 j5 => ?_) (fun e34 j5 => ?_) e33
  · replace h := ite_t e34 h
    refine t_ret fX2_sendAway_72 rX2_sendAway ?_
    exact qf_v h
  · replace h := ite_f (by omega) h
    refine t_ret fX2_sendAway_107 rX2_sendAway ?_
    exact qf_v h

theorem q_X3_isTold {X : mX} {n z : Nat} {G : mG} {r0 : Nat} (hr0 : is3 G r0) {V V' : mV} {v : Int} (h : F_X3_isTold G r0 V = some (V', v)) : Rn X (1) 34 [.ref r0] n z G V n z G V' (some (.int (iI v))) := by
  refine qi_toR (v := v) (L := [some (.ref r0)]) rfl ?_
  unfold F_X3_isTold at h
  refine t_l fX3_isTold_0 rfl rfl rfl rfl ?_
  refine k9_gr fX3_isTold_1 (hr0).1 kg_3_0 (s3_0r hr0) ?_
  obtain ⟨V1, v2, e3, h⟩ := bd_some h
  refine kcX7_size fX3_isTold_4 (s3_0s hr0).1 rfl (q_X7_size (s3_0s hr0) e3) (by decide) ?_
  obtain ⟨g5, h⟩ := gd_some h
  refine k9_if_eq fX3_isTold_7 rfl g5 (fun c4 => ?_) (fun c4 => ?_)
  · replace h := ite_t (c4) h
    refine t_s fX3_isTold_14 rfl rfl rfl ?_
    refine t_ret fX3_isTold_15 (rX3_isTold _ (by decide)) ?_
    exact qf_i h
  · replace h := ite_f (c4) h
    refine t_s fX3_isTold_10 rfl rfl rfl ?_
    refine k9_goto fX3_isTold_11 rfl ?_
    refine t_ret fX3_isTold_15 (rX3_isTold _ (by decide)) ?_
    exact qf_i h

theorem q_X3_known {X : mX} {n z : Nat} {G : mG} {r0 : Nat} (hr0 : is7 G r0) {x1 : Int} {V V' : mV} {v : Int} (h : F_X3_known G r0 x1 V = some (V', v)) : Rn X (1) 38 [.ref r0, .int (iI x1)] n z G V n z G V' (some (.int (iI v))) := by
  refine qi_toR (v := v) (L := [some (.ref r0), some (.int (iI x1))]) rfl ?_
  unfold F_X3_known at h
  refine t_l fX3_known_0 rfl rfl rfl rfl ?_
  obtain ⟨g2, h⟩ := gd_some h
  refine k9_if_lt fX3_known_1 rfl g2 (fun c1 => ?_) (fun c1 => ?_)
  · replace h := ite_t (c1) h
    refine t_s fX3_known_21 rfl rfl rfl ?_
    refine t_ret fX3_known_22 rX3_known ?_
    exact qf_i h
  · replace h := ite_f (c1) h
    refine t_l fX3_known_4 rfl rfl rfl rfl ?_
    refine t_s fX3_known_5 rfl rfl rfl ?_
    refine k9_ic_ge fX3_known_7 rfl g2 ⟨by decide, by decide⟩ (fun c3 => ?_) (fun c3 => ?_)
    · replace h := ite_t (c3) h
      refine t_s fX3_known_21 rfl rfl rfl ?_
      refine t_ret fX3_known_22 rX3_known ?_
      exact qf_i h
    · replace h := ite_f (c3) h
      refine t_l fX3_known_10 rfl rfl rfl rfl ?_
      refine t_s fX3_known_11 rfl rfl rfl ?_
      refine t_l fX3_known_13 rfl rfl rfl rfl ?_
      refine k9_iadd fX3_known_14 ?_
      obtain ⟨V4, v5, e6, h⟩ := bd_some h
      refine kcX7_get fX3_known_15 (hr0).1 rfl (q_X7_get (hr0) e6) (by decide) ?_
      refine k9_goto fX3_known_18 rfl ?_
      refine t_ret fX3_known_22 rX3_known ?_
      exact qf_i h

theorem q_X3_held {X : mX} {n z : Nat} {G : mG}  {x0 : Int} {V V' : mV} {v : Int} (h : F_X3_held G x0 V = some (V', v)) : Rn X (1) 40 [.long (lI x0)] n z G V n z G V' (some (.int (iI v))) := by
  refine qi_toR (v := v) (L := [some (.long (lI x0)), none]) rfl ?_
  unfold F_X3_held at h
  refine t_l fX3_held_0 rfl rfl rfl rfl ?_
  refine t_s fX3_held_1 rfl rfl rfl ?_
  obtain ⟨g1, h⟩ := gd_some h
  refine k9_lcmp fX3_held_4 g1 ⟨by decide, by decide⟩ ?_
  refine k9_if_le fX3_held_5 rfl (cmp_rg _ _) (fun c2 => ?_) (fun c2 => ?_)
  · replace h := ite_t (cmp_le.mp c2) h
    refine t_l fX3_held_11 rfl rfl rfl rfl ?_
    refine t_s fX3_held_12 rfl rfl rfl ?_
    refine k9_lcmp fX3_held_15 g1 ⟨by decide, by decide⟩ ?_
    refine k9_if_ge fX3_held_16 rfl (cmp_rg _ _) (fun c3 => ?_) (fun c3 => ?_)
    · replace h := ite_t (cmp_ge.mp c3) h
      refine t_l fX3_held_24 rfl rfl rfl rfl ?_
      refine k9_l2i fX3_held_25 ?_
      refine t_ret fX3_held_26 rX3_held ?_
      exact qf_i h
    · replace h := ite_f (fun q => c3 (cmp_ge.mpr q)) h
      refine t_s fX3_held_19 rfl rfl rfl ?_
      refine k9_goto fX3_held_21 rfl ?_
      refine t_ret fX3_held_26 rX3_held ?_
      exact qf_i h
  · replace h := ite_f (fun q => c2 (cmp_le.mpr q)) h
    refine t_s fX3_held_8 rfl rfl rfl ?_
    refine t_ret fX3_held_10 rX3_held ?_
    exact qf_i h

theorem q_X3_worked {X : mX} {n z : Nat} {G : mG}  {x0 x1 x2 : Int} {V V' : mV} {v : Int} (h : F_X3_worked G x0 x1 x2 V = some (V', v)) : Rn X (2) 39 [.int (iI x0), .int (iI x1), .int (iI x2)] n z G V n z G V' (some (.int (iI v))) := by
  refine qi_toR (v := v) (L := [some (.int (iI x0)), some (.int (iI x1)), some (.int (iI x2))]) rfl ?_
  unfold F_X3_worked at h
  refine t_l fX3_worked_0 rfl rfl rfl rfl ?_
  obtain ⟨g1, h⟩ := gd_some h
  by_cases c2 : x0 = 4
  · replace h := ite_t c2 h
    refine k9_sw 60 fX3_worked_1 g1 (by rw [c2]; rfl) (by rw [c2]; exact Or.inr (Or.inr rfl)) ?_
    refine t_l fX3_worked_60 rfl rfl rfl rfl ?_
    obtain ⟨g3, h⟩ := gd_some h
    refine k9_i2l fX3_worked_61 g3 ?_
    refine t_l fX3_worked_62 rfl rfl rfl rfl ?_
    obtain ⟨g4, h⟩ := gd_some h
    refine k9_i2l fX3_worked_63 g4 ?_
    refine k9_ladd fX3_worked_64 ?_
    obtain ⟨V5, v6, e7, h⟩ := bd_some h
    refine kcX3_held fX3_worked_65 rfl (q_X3_held  e7) (by decide) ?_
    refine t_ret fX3_worked_68 rX3_worked ?_
    exact qf_i h
  replace h := ite_f c2 h
  by_cases c8 : x0 = 5
  · replace h := ite_t c8 h
    refine k9_sw 69 fX3_worked_1 g1 (by rw [c8]; rfl) (by rw [c8]; exact Or.inr (Or.inr rfl)) ?_
    refine t_l fX3_worked_69 rfl rfl rfl rfl ?_
    obtain ⟨g9, h⟩ := gd_some h
    refine k9_i2l fX3_worked_70 g9 ?_
    refine t_l fX3_worked_71 rfl rfl rfl rfl ?_
    obtain ⟨g10, h⟩ := gd_some h
    refine k9_i2l fX3_worked_72 g10 ?_
    refine k9_lsub fX3_worked_73 ?_
    obtain ⟨V11, v12, e13, h⟩ := bd_some h
    refine kcX3_held fX3_worked_74 rfl (q_X3_held  e13) (by decide) ?_
    refine t_ret fX3_worked_77 rX3_worked ?_
    exact qf_i h
  replace h := ite_f c8 h
  by_cases c14 : x0 = 6
  · replace h := ite_t c14 h
    refine k9_sw 78 fX3_worked_1 g1 (by rw [c14]; rfl) (by rw [c14]; exact Or.inr (Or.inr rfl)) ?_
    refine t_l fX3_worked_78 rfl rfl rfl rfl ?_
    obtain ⟨g15, h⟩ := gd_some h
    refine k9_i2l fX3_worked_79 g15 ?_
    refine t_l fX3_worked_80 rfl rfl rfl rfl ?_
    obtain ⟨g16, h⟩ := gd_some h
    refine k9_i2l fX3_worked_81 g16 ?_
    refine k9_lmul fX3_worked_82 ?_
    obtain ⟨V17, v18, e19, h⟩ := bd_some h
    refine kcX3_held fX3_worked_83 rfl (q_X3_held  e19) (by decide) ?_
    refine t_ret fX3_worked_86 rX3_worked ?_
    exact qf_i h
  replace h := ite_f c14 h
  by_cases c20 : x0 = 7
  · replace h := ite_t c20 h
    refine k9_sw 87 fX3_worked_1 g1 (by rw [c20]; rfl) (by rw [c20]; exact Or.inr (Or.inr rfl)) ?_
    refine t_l fX3_worked_87 rfl rfl rfl rfl ?_
    obtain ⟨g22, h⟩ := gd_some h
    refine k9_if_ne fX3_worked_88 rfl g22 (fun c21 => ?_) (fun c21 => ?_)
    · replace h := ite_f (c21) h
      refine t_l fX3_worked_95 rfl rfl rfl rfl ?_
      refine t_l fX3_worked_96 rfl rfl rfl rfl ?_
      obtain ⟨g23, h⟩ := gd_some h
      obtain ⟨g24, h⟩ := gd_some h
      refine kcJ9_floorDiv_7cf53 fX3_worked_97 rfl (eJ9_floorDiv_7cf53 g23 g22 g24) (by decide) ?_
      refine t_ret fX3_worked_100 rX3_worked ?_
      exact qf_i h
    · replace h := ite_t (Classical.not_not.mp c21) h
      refine t_s fX3_worked_91 rfl rfl rfl ?_
      refine k9_goto fX3_worked_92 rfl ?_
      refine t_ret fX3_worked_100 rX3_worked ?_
      exact qf_i h
  replace h := ite_f c20 h
  by_cases c25 : x0 = 8
  · replace h := ite_t c25 h
    refine k9_sw 101 fX3_worked_1 g1 (by rw [c25]; rfl) (by rw [c25]; exact Or.inr (Or.inr rfl)) ?_
    refine t_l fX3_worked_101 rfl rfl rfl rfl ?_
    refine t_l fX3_worked_102 rfl rfl rfl rfl ?_
    obtain ⟨g26, h⟩ := gd_some h
    obtain ⟨g27, h⟩ := gd_some h
    refine kcM_min fX3_worked_103 rfl (eM_min g26 g27) (by decide) ?_
    refine t_ret fX3_worked_106 rX3_worked ?_
    exact qf_i h
  replace h := ite_f c25 h
  by_cases c28 : x0 = 9
  · replace h := ite_t c28 h
    refine k9_sw 107 fX3_worked_1 g1 (by rw [c28]; rfl) (by rw [c28]; exact Or.inr (Or.inr rfl)) ?_
    refine t_l fX3_worked_107 rfl rfl rfl rfl ?_
    refine t_l fX3_worked_108 rfl rfl rfl rfl ?_
    obtain ⟨g29, h⟩ := gd_some h
    obtain ⟨g30, h⟩ := gd_some h
    refine kcM_max fX3_worked_109 rfl (eM_max g29 g30) (by decide) ?_
    refine t_ret fX3_worked_112 rX3_worked ?_
    exact qf_i h
  replace h := ite_f c28 h
  by_cases c31 : x0 = 10
  · replace h := ite_t c31 h
    refine k9_sw 113 fX3_worked_1 g1 (by rw [c31]; rfl) (by rw [c31]; exact Or.inr (Or.inr rfl)) ?_
    refine t_l fX3_worked_113 rfl rfl rfl rfl ?_
    refine t_l fX3_worked_114 rfl rfl rfl rfl ?_
    obtain ⟨g33, h⟩ := gd_some h
    obtain ⟨g34, h⟩ := gd_some h
    refine k9_ic_ge fX3_worked_115 rfl g33 g34 (fun c32 => ?_) (fun c32 => ?_)
    · replace h := ite_t (c32) h
      refine t_s fX3_worked_122 rfl rfl rfl ?_
      refine t_ret fX3_worked_123 rX3_worked ?_
      exact qf_i h
    · replace h := ite_f (c32) h
      refine t_s fX3_worked_118 rfl rfl rfl ?_
      refine k9_goto fX3_worked_119 rfl ?_
      refine t_ret fX3_worked_123 rX3_worked ?_
      exact qf_i h
  replace h := ite_f c31 h
  by_cases c35 : x0 = 11
  · replace h := ite_t c35 h
    refine k9_sw 124 fX3_worked_1 g1 (by rw [c35]; rfl) (by rw [c35]; exact Or.inr (Or.inr rfl)) ?_
    refine t_l fX3_worked_124 rfl rfl rfl rfl ?_
    refine t_l fX3_worked_125 rfl rfl rfl rfl ?_
    obtain ⟨g37, h⟩ := gd_some h
    obtain ⟨g38, h⟩ := gd_some h
    refine k9_ic_le fX3_worked_126 rfl g37 g38 (fun c36 => ?_) (fun c36 => ?_)
    · replace h := ite_t (c36) h
      refine t_s fX3_worked_133 rfl rfl rfl ?_
      refine t_ret fX3_worked_134 rX3_worked ?_
      exact qf_i h
    · replace h := ite_f (c36) h
      refine t_s fX3_worked_129 rfl rfl rfl ?_
      refine k9_goto fX3_worked_130 rfl ?_
      refine t_ret fX3_worked_134 rX3_worked ?_
      exact qf_i h
  replace h := ite_f c35 h
  by_cases c39 : x0 = 12
  · replace h := ite_t c39 h
    refine k9_sw 135 fX3_worked_1 g1 (by rw [c39]; rfl) (by rw [c39]; exact Or.inr (Or.inr rfl)) ?_
    refine t_l fX3_worked_135 rfl rfl rfl rfl ?_
    refine t_l fX3_worked_136 rfl rfl rfl rfl ?_
    obtain ⟨g41, h⟩ := gd_some h
    obtain ⟨g42, h⟩ := gd_some h
    refine k9_ic_ne fX3_worked_137 rfl g41 g42 (fun c40 => ?_) (fun c40 => ?_)
    · replace h := ite_f (c40) h
      refine t_s fX3_worked_144 rfl rfl rfl ?_
      refine t_ret fX3_worked_145 rX3_worked ?_
      exact qf_i h
    · replace h := ite_t (Classical.not_not.mp c40) h
      refine t_s fX3_worked_140 rfl rfl rfl ?_
      refine k9_goto fX3_worked_141 rfl ?_
      refine t_ret fX3_worked_145 rX3_worked ?_
      exact qf_i h
  replace h := ite_f c39 h
  by_cases c43 : x0 = 13
  · replace h := ite_t c43 h
    refine k9_sw 146 fX3_worked_1 g1 (by rw [c43]; rfl) (by rw [c43]; exact Or.inr (Or.inr rfl)) ?_
    refine t_l fX3_worked_146 rfl rfl rfl rfl ?_
    refine t_l fX3_worked_147 rfl rfl rfl rfl ?_
    obtain ⟨g44, h⟩ := gd_some h
    refine k8_iand fX3_worked_148 g44 ?_
    refine t_ret fX3_worked_149 rX3_worked ?_
    exact qf_i h
  replace h := ite_f c43 h
  by_cases c45 : x0 = 14
  · replace h := ite_t c45 h
    refine k9_sw 150 fX3_worked_1 g1 (by rw [c45]; rfl) (by rw [c45]; exact Or.inr (Or.inr rfl)) ?_
    refine t_l fX3_worked_150 rfl rfl rfl rfl ?_
    refine t_l fX3_worked_151 rfl rfl rfl rfl ?_
    obtain ⟨g46, h⟩ := gd_some h
    refine k8_ior fX3_worked_152 g46 ?_
    refine t_ret fX3_worked_153 rX3_worked ?_
    exact qf_i h
  replace h := ite_f c45 h
  have hd1 : (x0 < 4 ∨ 14 < x0) := by omega
  refine k9_sw 154 fX3_worked_1 g1 (by rw [if_pos hd1]; rfl) (by omega) ?_
  refine t_s fX3_worked_154 rfl rfl rfl ?_
  refine t_ret fX3_worked_155 rX3_worked ?_
  exact qf_i h

theorem tj_X3_value_J75_4 {X : mX} {n z : Nat} {G : mG} {r0 r1 : Nat} (hr0 : is3 G r0) (hr1 : is7 G r1) {x2 x3 s1 s2 : Int} {j4 j5 : Option Value} {V V' : mV} {q : Nat × Int × Int} {Q : Nat → Nat → mG → mV → Option Value → Prop} (h0 : q.1 = 0 → ∀ j4 j5 : Option Value, T X (3) 37 4 [some (.ref r0), some (.ref r1), some (.int (iI q.2.1)), some (.int (iI q.2.2)), j4, j5] [] n z G V' Q) (h1 : q.1 = 1 → ∀ j4 j5 : Option Value, T X (3) 37 177 [some (.ref r0), some (.ref r1), some (.int (iI q.2.1)), some (.int (iI q.2.2)), j4, j5] [] n z G V' Q) (h : F_X3_value_J75_4 G r0 r1 x2 x3 s1 s2 V = some (V', q)) : T X (3) 37 75 [some (.ref r0), some (.ref r1), some (.int (iI x2)), some (.int (iI x3)), j4, j5] [.int (iI s2), .int (iI s1), .ref (r0 + 3)] n z G V Q := by
  unfold F_X3_value_J75_4 at h
  obtain ⟨V24, v25, e26, h⟩ := bd_some h
  refine kcX7_put fX3_value_75 (s3_1s hr0).1 rfl (q_X7_put (s3_1s hr0) e26) (by decide) ?_
  refine k9_goto fX3_value_78 rfl ?_
  replace h := lt_some h
  refine k9_iinc fX3_value_171 rfl (Nat.le_of_ble_eq_true rfl) rfl ?_
  refine k9_goto fX3_value_174 rfl ?_
  cases h
  exact h0 rfl _ _

theorem tj_X3_value_J51_4 {X : mX} {n z : Nat} {G : mG} {r0 r1 : Nat} (hr0 : is3 G r0) (hr1 : is7 G r1) {x2 x3 x4 x5 : Int} {V V' : mV} {q : Nat × Int × Int} {Q : Nat → Nat → mG → mV → Option Value → Prop} (h0 : q.1 = 0 → ∀ j4 j5 : Option Value, T X (3) 37 4 [some (.ref r0), some (.ref r1), some (.int (iI q.2.1)), some (.int (iI q.2.2)), j4, j5] [] n z G V' Q) (h1 : q.1 = 1 → ∀ j4 j5 : Option Value, T X (3) 37 177 [some (.ref r0), some (.ref r1), some (.int (iI q.2.1)), some (.int (iI q.2.2)), j4, j5] [] n z G V' Q) (h : F_X3_value_J51_4 G r0 r1 x2 x3 x4 x5 V = some (V', q)) : T X (3) 37 51 [some (.ref r0), some (.ref r1), some (.int (iI x2)), some (.int (iI x3)), some (.int (iI x4)), some (.int (iI x5))] [] n z G V Q := by
  unfold F_X3_value_J51_4 at h
  replace h := lt_some h
  refine k9_iinc fX3_value_51 rfl (Nat.le_of_ble_eq_true rfl) rfl ?_
  refine t_l fX3_value_54 rfl rfl rfl rfl ?_
  refine k9_gr fX3_value_55 (hr0).1 kg_3_1 (s3_1r hr0) ?_
  refine t_l fX3_value_58 rfl rfl rfl rfl ?_
  refine t_l fX3_value_59 rfl rfl rfl rfl ?_
  obtain ⟨g20, h⟩ := gd_some h
  refine k9_if_ne fX3_value_61 rfl g20 (fun c19 => ?_) (fun c19 => ?_)
  · replace h := ite_f (c19) h
    refine t_l fX3_value_69 rfl rfl rfl rfl ?_
    refine t_l fX3_value_70 rfl rfl rfl rfl ?_
    obtain ⟨V21, v22, e23, h⟩ := bd_some h
    refine kcX7_get fX3_value_72 (hr1).1 rfl (q_X7_get (hr1) e23) (by decide) ?_
    exact tj_X3_value_J75_4 hr0 hr1  h0 h1 h
  · replace h := ite_t (Classical.not_not.mp c19) h
    refine t_l fX3_value_64 rfl rfl rfl rfl ?_
    refine k9_goto fX3_value_66 rfl ?_
    exact tj_X3_value_J75_4 hr0 hr1  h0 h1 h

theorem tb_X3_value_4 {X : mX} {n z : Nat} {G : mG} {r0 r1 : Nat} (hr0 : is3 G r0) (hr1 : is7 G r1) {x2 x3 : Int} {j4 j5 : Option Value} {V V' : mV} {q : Nat × Int × Int} {Q : Nat → Nat → mG → mV → Option Value → Prop} (h0 : q.1 = 0 → ∀ j4 j5 : Option Value, T X (3) 37 4 [some (.ref r0), some (.ref r1), some (.int (iI q.2.1)), some (.int (iI q.2.2)), j4, j5] [] n z G V' Q) (h1 : q.1 = 1 → ∀ j4 j5 : Option Value, T X (3) 37 177 [some (.ref r0), some (.ref r1), some (.int (iI q.2.1)), some (.int (iI q.2.2)), j4, j5] [] n z G V' Q) (h : B_X3_value_4 G r0 r1 x2 x3 V = some (V', q)) : T X (3) 37 4 [some (.ref r0), some (.ref r1), some (.int (iI x2)), some (.int (iI x3)), j4, j5] [] n z G V Q := by
  unfold B_X3_value_4 at h
  refine t_l fX3_value_4 rfl rfl rfl rfl ?_
  refine t_l fX3_value_5 rfl rfl rfl rfl ?_
  refine k9_gr fX3_value_6 (hr0).1 kg_3_0 (s3_0r hr0) ?_
  obtain ⟨V1, v2, e3, h⟩ := bd_some h
  refine kcX7_size fX3_value_9 (s3_0s hr0).1 rfl (q_X7_size (s3_0s hr0) e3) (by decide) ?_
  obtain ⟨g5, h⟩ := gd_some h
  obtain ⟨g6, h⟩ := gd_some h
  refine k9_ic_ge fX3_value_12 rfl g5 g6 (fun c4 => ?_) (fun c4 => ?_)
  · replace h := ite_t (c4) h
    cases h
    exact h1 rfl _ _
  · replace h := ite_f (c4) h
    refine t_l fX3_value_15 rfl rfl rfl rfl ?_
    refine k9_gr fX3_value_16 (hr0).1 kg_3_0 (s3_0r hr0) ?_
    refine t_l fX3_value_19 rfl rfl rfl rfl ?_
    obtain ⟨V7, v8, e9, h⟩ := bd_some h
    refine kcX7_get fX3_value_20 (s3_0s hr0).1 rfl (q_X7_get (s3_0s hr0) e9) (by decide) ?_
    refine t_s fX3_value_23 rfl rfl rfl ?_
    refine k8_iand16 fX3_value_25 ?_
    replace h := lt_some h
    refine t_l fX3_value_26 rfl rfl rfl rfl ?_
    refine t_l fX3_value_28 rfl rfl rfl rfl ?_
    refine k9_gr fX3_value_29 (hr0).1 kg_3_0 (s3_0r hr0) ?_
    refine t_l fX3_value_32 rfl rfl rfl rfl ?_
    obtain ⟨V11, v12, e13, h⟩ := bd_some h
    refine kcX7_get fX3_value_33 (s3_0s hr0).1 rfl (q_X7_get (s3_0s hr0) e13) (by decide) ?_
    refine t_s fX3_value_36 rfl rfl rfl ?_
    obtain ⟨g14, h⟩ := gd_some h
    refine k8_ishr fX3_value_37 g14 ⟨by decide, by decide⟩ ?_
    replace h := lt_some h
    refine t_l fX3_value_38 rfl rfl rfl rfl ?_
    refine t_l fX3_value_40 rfl rfl rfl rfl ?_
    obtain ⟨g17, h⟩ := gd_some h
    refine k9_if_eq fX3_value_42 rfl g17 (fun c16 => ?_) (fun c16 => ?_)
    · replace h := ite_t (c16) h
      exact tj_X3_value_J51_4 hr0 hr1  h0 h1 h
    · replace h := ite_f (c16) h
      refine t_l fX3_value_45 rfl rfl rfl rfl ?_
      refine t_s fX3_value_47 rfl rfl rfl ?_
      refine k9_ic_ne fX3_value_48 rfl g17 ⟨by decide, by decide⟩ (fun c28 => ?_) (fun c28 => ?_)
      · replace h := ite_f (c28) h
        refine t_l fX3_value_81 rfl rfl rfl rfl ?_
        refine t_s fX3_value_83 rfl rfl rfl ?_
        refine k9_ic_ne fX3_value_84 rfl g17 ⟨by decide, by decide⟩ (fun c29 => ?_) (fun c29 => ?_)
        · replace h := ite_f (c29) h
          refine t_l fX3_value_110 rfl rfl rfl rfl ?_
          refine t_s fX3_value_112 rfl rfl rfl ?_
          refine k9_ic_ne fX3_value_113 rfl g17 ⟨by decide, by decide⟩ (fun c30 => ?_) (fun c30 => ?_)
          · replace h := ite_f (c30) h
            replace h := lt_some h
            refine k9_iinc fX3_value_137 rfl (Nat.le_of_ble_eq_true rfl) rfl ?_
            refine t_l fX3_value_140 rfl rfl rfl rfl ?_
            refine k9_gr fX3_value_141 (hr0).1 kg_3_1 (s3_1r hr0) ?_
            refine t_l fX3_value_144 rfl rfl rfl rfl ?_
            refine t_l fX3_value_145 rfl rfl rfl rfl ?_
            refine t_l fX3_value_147 rfl rfl rfl rfl ?_
            refine k9_gr fX3_value_148 (hr0).1 kg_3_1 (s3_1r hr0) ?_
            refine t_l fX3_value_151 rfl rfl rfl rfl ?_
            obtain ⟨V32, v33, e34, h⟩ := bd_some h
            refine kcX7_get fX3_value_152 (s3_1s hr0).1 rfl (q_X7_get (s3_1s hr0) e34) (by decide) ?_
            refine t_l fX3_value_155 rfl rfl rfl rfl ?_
            refine k9_gr fX3_value_156 (hr0).1 kg_3_1 (s3_1r hr0) ?_
            refine t_l fX3_value_159 rfl rfl rfl rfl ?_
            refine t_s fX3_value_160 rfl rfl rfl ?_
            refine k9_iadd fX3_value_161 ?_
            obtain ⟨V35, v36, e37, h⟩ := bd_some h
            refine kcX7_get fX3_value_162 (s3_1s hr0).1 rfl (q_X7_get (s3_1s hr0) e37) (by decide) ?_
            obtain ⟨V38, v39, e40, h⟩ := bd_some h
            refine kcX3_worked fX3_value_165 rfl (q_X3_worked  e40) (by decide) ?_
            obtain ⟨V41, v42, e43, h⟩ := bd_some h
            refine kcX7_put fX3_value_168 (s3_1s hr0).1 rfl (q_X7_put (s3_1s hr0) e43) (by decide) ?_
            replace h := lt_some h
            refine k9_iinc fX3_value_171 rfl (Nat.le_of_ble_eq_true rfl) rfl ?_
            refine k9_goto fX3_value_174 rfl ?_
            cases h
            exact h0 rfl _ _
          · replace h := ite_t (Classical.not_not.mp c30) h
            refine t_l fX3_value_116 rfl rfl rfl rfl ?_
            refine k9_gr fX3_value_117 (hr0).1 kg_3_1 (s3_1r hr0) ?_
            refine t_l fX3_value_120 rfl rfl rfl rfl ?_
            refine t_s fX3_value_121 rfl rfl rfl ?_
            refine t_l fX3_value_122 rfl rfl rfl rfl ?_
            refine k9_gr fX3_value_123 (hr0).1 kg_3_1 (s3_1r hr0) ?_
            refine t_l fX3_value_126 rfl rfl rfl rfl ?_
            obtain ⟨V45, v46, e47, h⟩ := bd_some h
            refine kcX7_get fX3_value_127 (s3_1s hr0).1 rfl (q_X7_get (s3_1s hr0) e47) (by decide) ?_
            refine k9_isub fX3_value_130 ?_
            obtain ⟨V48, v49, e50, h⟩ := bd_some h
            refine kcX7_put fX3_value_131 (s3_1s hr0).1 rfl (q_X7_put (s3_1s hr0) e50) (by decide) ?_
            refine k9_goto fX3_value_134 rfl ?_
            replace h := lt_some h
            refine k9_iinc fX3_value_171 rfl (Nat.le_of_ble_eq_true rfl) rfl ?_
            refine k9_goto fX3_value_174 rfl ?_
            cases h
            exact h0 rfl _ _
        · replace h := ite_t (Classical.not_not.mp c29) h
          refine t_l fX3_value_87 rfl rfl rfl rfl ?_
          refine k9_gr fX3_value_88 (hr0).1 kg_3_1 (s3_1r hr0) ?_
          refine t_l fX3_value_91 rfl rfl rfl rfl ?_
          refine t_l fX3_value_92 rfl rfl rfl rfl ?_
          refine t_l fX3_value_93 rfl rfl rfl rfl ?_
          refine k9_gr fX3_value_94 (hr0).1 kg_3_1 (s3_1r hr0) ?_
          refine t_l fX3_value_97 rfl rfl rfl rfl ?_
          obtain ⟨V52, v53, e54, h⟩ := bd_some h
          refine kcX7_get fX3_value_98 (s3_1s hr0).1 rfl (q_X7_get (s3_1s hr0) e54) (by decide) ?_
          obtain ⟨V55, v56, e57, h⟩ := bd_some h
          refine kcX3_known fX3_value_101 rfl rfl (q_X3_known (hr1) e57) (by decide) ?_
          obtain ⟨V58, v59, e60, h⟩ := bd_some h
          refine kcX7_put fX3_value_104 (s3_1s hr0).1 rfl (q_X7_put (s3_1s hr0) e60) (by decide) ?_
          refine k9_goto fX3_value_107 rfl ?_
          replace h := lt_some h
          refine k9_iinc fX3_value_171 rfl (Nat.le_of_ble_eq_true rfl) rfl ?_
          refine k9_goto fX3_value_174 rfl ?_
          cases h
          exact h0 rfl _ _
      · replace h := ite_t (Classical.not_not.mp c28) h
        exact tj_X3_value_J51_4 hr0 hr1  h0 h1 h

theorem tl_X3_value_4 {X : mX} {n z : Nat} {G : mG} {r0 r1 : Nat} (hr0 : is3 G r0) (hr1 : is7 G r1) {x2 x3 : Int} {j4 j5 : Option Value} {V V' : mV} {fu : Nat} {q : Nat × Int × Int} {Q : Nat → Nat → mG → mV → Option Value → Prop} (k1 : q.1 = 1 → ∀ j4 j5 : Option Value, T X (3) 37 177 [some (.ref r0), some (.ref r1), some (.int (iI q.2.1)), some (.int (iI q.2.2)), j4, j5] [] n z G V' Q) (h : lp (fun (s : Int × Int) V => B_X3_value_4 G r0 r1 s.1 s.2 V) fu (x2, x3) V = some (V', q)) : T X (3) 37 4 [some (.ref r0), some (.ref r1), some (.int (iI x2)), some (.int (iI x3)), j4, j5] [] n z G V Q :=
  lp_go (P0 := fun s V => ∀ j4 j5 : Option Value, T X (3) 37 4 [some (.ref r0), some (.ref r1), some (.int (iI s.1)), some (.int (iI s.2)), j4, j5] [] n z G V Q) (PE := fun t s V => (t = 1 → ∀ j4 j5 : Option Value, T X (3) 37 177 [some (.ref r0), some (.ref r1), some (.int (iI s.1)), some (.int (iI s.2)), j4, j5] [] n z G V Q)) (fun s V V' q hb h0 h1 => fun _ _ => tb_X3_value_4 hr0 hr1  h0 (fun e => (h1 (by omega)) e) hb) fu (x2, x3) V V' q h k1 _ _

theorem q_X3_value {X : mX} {n z : Nat} {G : mG} {r0 r1 : Nat} (hr0 : is3 G r0) (hr1 : is7 G r1) {V V' : mV} {v : Int} (h : F_X3_value G r0 r1 V = some (V', v)) : Rn X (3) 37 [.ref r0, .ref r1] n z G V n z G V' (some (.int (iI v))) := by
  refine qi_toR (v := v) (L := [some (.ref r0), some (.ref r1), none, none, none, none]) rfl ?_
  unfold F_X3_value at h
  refine t_s fX3_value_0 rfl rfl rfl ?_
  refine t_l fX3_value_1 rfl rfl rfl rfl ?_
  refine t_s fX3_value_2 rfl rfl rfl ?_
  refine t_l fX3_value_3 rfl rfl rfl rfl ?_
  obtain ⟨V62, u63, e64, h⟩ := bd_some h
  refine tl_X3_value_4 hr0 hr1  (fun e65 j4 j5 => ?_) e64
  refine t_l fX3_value_177 rfl rfl rfl rfl ?_
  refine k9_gr fX3_value_178 (hr0).1 kg_3_1 (s3_1r hr0) ?_
  refine t_l fX3_value_181 rfl rfl rfl rfl ?_
  obtain ⟨V66, v67, e68, h⟩ := bd_some h
  refine kcX7_get fX3_value_182 (s3_1s hr0).1 rfl (q_X7_get (s3_1s hr0) e68) (by decide) ?_
  refine t_ret fX3_value_185 rX3_value ?_
  exact qf_i h

theorem tj_X2_able_J56 {X : mX} {n z : Nat} {G : mG} {r0 r1 : Nat} (hr0 : is2 G r0) (hr1 : is1 G r1) {x2 x3 x4 x5 s1 s2 : Int} {V V' : mV} {v : Int} (h : F_X2_able_J56 G r0 r1 x2 x3 x4 x5 s1 s2 V = some (V', v)) : T X (4) 29 56 [some (.ref r0), some (.ref r1), some (.int (iI x2)), some (.int (iI x3)), some (.int (iI x4)), some (.int (iI x5))] [.int (iI s2), .int (iI s1), .ref (r0 + 1)] n z G V (qi n z G V' v) := by
  unfold F_X2_able_J56 at h
  obtain ⟨V18, v19, e20, h⟩ := bd_some h
  refine kcX7_put fX2_able_56 (s2_0s hr0).1 rfl (q_X7_put (s2_0s hr0) e20) (by decide) ?_
  refine t_l fX2_able_59 rfl rfl rfl rfl ?_
  refine k9_gr fX2_able_60 (hr1).1 kg_1_12 (s1_12r hr1) ?_
  refine t_l fX2_able_63 rfl rfl rfl rfl ?_
  refine k9_gr fX2_able_64 (hr0).1 kg_2_0 (s2_0r hr0) ?_
  obtain ⟨V21, v22, e23, h⟩ := bd_some h
  refine kcX3_value fX2_able_67 (s1_12s hr1).1 rfl rfl (q_X3_value (s1_12s hr1) (s2_0s hr0) e23) (by decide) ?_
  obtain ⟨g25, h⟩ := gd_some h
  refine k9_if_eq fX2_able_70 rfl g25 (fun c24 => ?_) (fun c24 => ?_)
  · replace h := ite_t (c24) h
    refine t_s fX2_able_77 rfl rfl rfl ?_
    refine t_ret fX2_able_78 (rX2_able _ (by decide)) ?_
    exact qf_i h
  · replace h := ite_f (c24) h
    refine t_s fX2_able_73 rfl rfl rfl ?_
    refine k9_goto fX2_able_74 rfl ?_
    refine t_ret fX2_able_78 (rX2_able _ (by decide)) ?_
    exact qf_i h

theorem q_X2_able {X : mX} {n z : Nat} {G : mG} {r0 r1 : Nat} (hr0 : is2 G r0) (hr1 : is1 G r1) {x2 x3 x4 x5 : Int} {V V' : mV} {v : Int} (h : F_X2_able G r0 r1 x2 x3 x4 x5 V = some (V', v)) : Rn X (4) 29 [.ref r0, .ref r1, .int (iI x2), .int (iI x3), .int (iI x4), .int (iI x5)] n z G V n z G V' (some (.int (iI v))) := by
  refine qi_toR (v := v) (L := [some (.ref r0), some (.ref r1), some (.int (iI x2)), some (.int (iI x3)), some (.int (iI x4)), some (.int (iI x5))]) rfl ?_
  unfold F_X2_able at h
  refine t_l fX2_able_0 rfl rfl rfl rfl ?_
  refine k9_gr fX2_able_1 (hr1).1 kg_1_12 (s1_12r hr1) ?_
  obtain ⟨V1, v2, e3, h⟩ := bd_some h
  refine kcX3_isTold fX2_able_4 (s1_12s hr1).1 rfl (q_X3_isTold (s1_12s hr1) e3) (by decide) ?_
  obtain ⟨g5, h⟩ := gd_some h
  refine k9_if_ne fX2_able_7 rfl g5 (fun c4 => ?_) (fun c4 => ?_)
  · replace h := ite_f (c4) h
    refine t_l fX2_able_12 rfl rfl rfl rfl ?_
    refine k9_gr fX2_able_13 (hr0).1 kg_2_0 (s2_0r hr0) ?_
    refine t_s fX2_able_16 rfl rfl rfl ?_
    refine t_l fX2_able_18 rfl rfl rfl rfl ?_
    obtain ⟨V6, v7, e8, h⟩ := bd_some h
    refine kcX7_put fX2_able_20 (s2_0s hr0).1 rfl (q_X7_put (s2_0s hr0) e8) (by decide) ?_
    refine t_l fX2_able_23 rfl rfl rfl rfl ?_
    refine k9_gr fX2_able_24 (hr0).1 kg_2_0 (s2_0r hr0) ?_
    refine t_s fX2_able_27 rfl rfl rfl ?_
    refine t_l fX2_able_28 rfl rfl rfl rfl ?_
    refine k9_gr fX2_able_29 (hr1).1 kg_1_6 (s1_6r hr1) ?_
    refine t_l fX2_able_32 rfl rfl rfl rfl ?_
    obtain ⟨V9, v10, e11, h⟩ := bd_some h
    refine kcX7_get fX2_able_34 (s1_6s hr1).1 rfl (q_X7_get (s1_6s hr1) e11) (by decide) ?_
    obtain ⟨V12, v13, e14, h⟩ := bd_some h
    refine kcX7_put fX2_able_37 (s2_0s hr0).1 rfl (q_X7_put (s2_0s hr0) e14) (by decide) ?_
    refine t_l fX2_able_40 rfl rfl rfl rfl ?_
    refine k9_gr fX2_able_41 (hr0).1 kg_2_0 (s2_0r hr0) ?_
    refine t_s fX2_able_44 rfl rfl rfl ?_
    refine t_l fX2_able_46 rfl rfl rfl rfl ?_
    refine t_l fX2_able_47 rfl rfl rfl rfl ?_
    obtain ⟨g16, h⟩ := gd_some h
    obtain ⟨g17, h⟩ := gd_some h
    refine k9_ic_ne fX2_able_48 rfl g16 g17 (fun c15 => ?_) (fun c15 => ?_)
    · replace h := ite_f (c15) h
      refine t_s fX2_able_55 rfl rfl rfl ?_
      exact tj_X2_able_J56 hr0 hr1   h
    · replace h := ite_t (Classical.not_not.mp c15) h
      refine t_s fX2_able_51 rfl rfl rfl ?_
      refine k9_goto fX2_able_52 rfl ?_
      exact tj_X2_able_J56 hr0 hr1   h
  · replace h := ite_t (Classical.not_not.mp c4) h
    refine t_s fX2_able_10 rfl rfl rfl ?_
    refine t_ret fX2_able_11 (rX2_able _ (by decide)) ?_
    exact qf_i h

theorem q_X4_keep {X : mX} {n z : Nat} {G : mG} {r0 : Nat} (hr0 : is4 G r0) {x1 x2 x3 : Int} {V V' : mV} {v : Int} (h : F_X4_keep G r0 x1 x2 x3 V = some (V', v)) : Rn X (1) 47 [.ref r0, .int (iI x1), .int (iI x2), .int (iI x3)] n z G V n z G V' none := by
  refine qv_toR (v := v) (L := [some (.ref r0), some (.int (iI x1)), some (.int (iI x2)), some (.int (iI x3)), none]) rfl ?_
  unfold F_X4_keep at h
  refine t_l fX4_keep_0 rfl rfl rfl rfl ?_
  refine k9_gi fX4_keep_1 (hr0).1 kg_4_5 ?_
  refine t_s fX4_keep_4 rfl rfl rfl ?_
  obtain ⟨g1, h⟩ := gd_some h
  refine k9_irem fX4_keep_6 g1 ⟨by decide, by decide⟩ (by decide) ?_
  refine t_s fX4_keep_7 rfl rfl rfl ?_
  refine k9_imul fX4_keep_8 ?_
  replace h := lt_some h
  refine t_l fX4_keep_9 rfl rfl rfl rfl ?_
  refine t_l fX4_keep_11 rfl rfl rfl rfl ?_
  refine k9_gr fX4_keep_12 (hr0).1 kg_4_4 (s4_4r hr0) ?_
  refine t_l fX4_keep_15 rfl rfl rfl rfl ?_
  refine t_l fX4_keep_17 rfl rfl rfl rfl ?_
  refine k9_gi fX4_keep_18 (hr0).1 kg_4_0 ?_
  obtain ⟨V3, v4, e5, h⟩ := bd_some h
  refine kcX7_put fX4_keep_21 (s4_4s hr0).1 rfl (q_X7_put (s4_4s hr0) e5) (by decide) ?_
  refine t_l fX4_keep_24 rfl rfl rfl rfl ?_
  refine k9_gr fX4_keep_25 (hr0).1 kg_4_4 (s4_4r hr0) ?_
  refine t_l fX4_keep_28 rfl rfl rfl rfl ?_
  refine t_s fX4_keep_30 rfl rfl rfl ?_
  refine k9_iadd fX4_keep_31 ?_
  refine t_l fX4_keep_32 rfl rfl rfl rfl ?_
  obtain ⟨V6, v7, e8, h⟩ := bd_some h
  refine kcX7_put fX4_keep_33 (s4_4s hr0).1 rfl (q_X7_put (s4_4s hr0) e8) (by decide) ?_
  refine t_l fX4_keep_36 rfl rfl rfl rfl ?_
  refine k9_gr fX4_keep_37 (hr0).1 kg_4_4 (s4_4r hr0) ?_
  refine t_l fX4_keep_40 rfl rfl rfl rfl ?_
  refine t_s fX4_keep_42 rfl rfl rfl ?_
  refine k9_iadd fX4_keep_43 ?_
  refine t_l fX4_keep_44 rfl rfl rfl rfl ?_
  obtain ⟨V9, v10, e11, h⟩ := bd_some h
  refine kcX7_put fX4_keep_45 (s4_4s hr0).1 rfl (q_X7_put (s4_4s hr0) e11) (by decide) ?_
  refine t_l fX4_keep_48 rfl rfl rfl rfl ?_
  refine k9_gr fX4_keep_49 (hr0).1 kg_4_4 (s4_4r hr0) ?_
  refine t_l fX4_keep_52 rfl rfl rfl rfl ?_
  refine t_s fX4_keep_54 rfl rfl rfl ?_
  refine k9_iadd fX4_keep_55 ?_
  refine t_l fX4_keep_56 rfl rfl rfl rfl ?_
  obtain ⟨V12, v13, e14, h⟩ := bd_some h
  refine kcX7_put fX4_keep_57 (s4_4s hr0).1 rfl (q_X7_put (s4_4s hr0) e14) (by decide) ?_
  refine t_l fX4_keep_60 rfl rfl rfl rfl ?_
  refine t_s fX4_keep_61 rfl rfl rfl ?_
  refine k9_gi fX4_keep_62 (hr0).1 kg_4_5 ?_
  refine t_s fX4_keep_65 rfl rfl rfl ?_
  refine k9_iadd fX4_keep_66 ?_
  refine k9_pi fX4_keep_67 (hr0).1 kp_4_5 ?_
  replace h := lt_some h
  refine t_ret fX4_keep_70 rX4_keep ?_
  exact qf_v h

theorem q_X2_fail {X : mX} {n z : Nat} {G : mG} {r0 r1 : Nat} (hr0 : is2 G r0) (hr1 : is4 G r1) {x2 x3 x4 : Int} {V V' : mV} {v : Int} (h : F_X2_fail G r0 r1 x2 x3 x4 V = some (V', v)) : Rn X (2) 22 [.ref r0, .ref r1, .int (iI x2), .int (iI x3), .int (iI x4)] n z G V n z G V' none := by
  refine qv_toR (v := v) (L := [some (.ref r0), some (.ref r1), some (.int (iI x2)), some (.int (iI x3)), some (.int (iI x4))]) rfl ?_
  unfold F_X2_fail at h
  refine t_l fX2_fail_0 rfl rfl rfl rfl ?_
  refine t_l fX2_fail_1 rfl rfl rfl rfl ?_
  refine t_l fX2_fail_2 rfl rfl rfl rfl ?_
  refine t_l fX2_fail_3 rfl rfl rfl rfl ?_
  obtain ⟨V1, v2, e3, h⟩ := bd_some h
  refine kcX4_keep fX2_fail_5 (hr1).1 rfl (q_X4_keep (hr1) e3) (by decide) ?_
  refine t_l fX2_fail_8 rfl rfl rfl rfl ?_
  refine k9_gr fX2_fail_9 (hr0).1 kg_2_3 (s2_3r hr0) ?_
  refine t_l fX2_fail_12 rfl rfl rfl rfl ?_
  refine t_l fX2_fail_13 rfl rfl rfl rfl ?_
  refine k9_gr fX2_fail_14 (hr0).1 kg_2_3 (s2_3r hr0) ?_
  refine t_l fX2_fail_17 rfl rfl rfl rfl ?_
  obtain ⟨V4, v5, e6, h⟩ := bd_some h
  refine kcX7_get fX2_fail_18 (s2_3s hr0).1 rfl (q_X7_get (s2_3s hr0) e6) (by decide) ?_
  refine t_s fX2_fail_21 rfl rfl rfl ?_
  refine k9_iadd fX2_fail_22 ?_
  obtain ⟨V7, v8, e9, h⟩ := bd_some h
  refine kcX7_put fX2_fail_23 (s2_3s hr0).1 rfl (q_X7_put (s2_3s hr0) e9) (by decide) ?_
  refine t_l fX2_fail_26 rfl rfl rfl rfl ?_
  refine k9_gr fX2_fail_27 (hr0).1 kg_2_4 (s2_4r hr0) ?_
  obtain ⟨V10, v11, e12, h⟩ := bd_some h
  refine kcX7_size fX2_fail_30 (s2_4s hr0).1 rfl (q_X7_size (s2_4s hr0) e12) (by decide) ?_
  obtain ⟨g14, h⟩ := gd_some h
  refine k9_if_ne fX2_fail_33 rfl g14 (fun c13 => ?_) (fun c13 => ?_)
  · replace h := ite_f (c13) h
    refine t_ret fX2_fail_63 rX2_fail ?_
    exact qf_v h
  · replace h := ite_t (Classical.not_not.mp c13) h
    refine t_l fX2_fail_36 rfl rfl rfl rfl ?_
    refine k9_gr fX2_fail_37 (hr0).1 kg_2_4 (s2_4r hr0) ?_
    refine t_l fX2_fail_40 rfl rfl rfl rfl ?_
    refine k9_gi fX2_fail_41 (hr1).1 kg_4_0 ?_
    obtain ⟨V15, v16, e17, h⟩ := bd_some h
    refine kcX7_add fX2_fail_44 (s2_4s hr0).1 rfl (q_X7_add (s2_4s hr0) e17) (by decide) ?_
    refine t_l fX2_fail_47 rfl rfl rfl rfl ?_
    refine k9_gr fX2_fail_48 (hr0).1 kg_2_4 (s2_4r hr0) ?_
    refine t_l fX2_fail_51 rfl rfl rfl rfl ?_
    obtain ⟨V18, v19, e20, h⟩ := bd_some h
    refine kcX7_add fX2_fail_52 (s2_4s hr0).1 rfl (q_X7_add (s2_4s hr0) e20) (by decide) ?_
    refine t_l fX2_fail_55 rfl rfl rfl rfl ?_
    refine k9_gr fX2_fail_56 (hr0).1 kg_2_4 (s2_4r hr0) ?_
    refine t_l fX2_fail_59 rfl rfl rfl rfl ?_
    obtain ⟨V21, v22, e23, h⟩ := bd_some h
    refine kcX7_add fX2_fail_60 (s2_4s hr0).1 rfl (q_X7_add (s2_4s hr0) e23) (by decide) ?_
    refine t_ret fX2_fail_63 rX2_fail ?_
    exact qf_v h

theorem q_X2_setKnower {X : mX} {n z : Nat} {G : mG} {r0 r1 : Nat} (hr0 : is2 G r0) (hr1 : is1 G r1) {x2 x3 x4 : Int} {V V' : mV} {v : Int} (h : F_X2_setKnower G r0 r1 x2 x3 x4 V = some (V', v)) : Rn X (2) 31 [.ref r0, .ref r1, .int (iI x2), .int (iI x3), .int (iI x4)] n z G V n z G V' none := by
  refine qv_toR (v := v) (L := [some (.ref r0), some (.ref r1), some (.int (iI x2)), some (.int (iI x3)), some (.int (iI x4))]) rfl ?_
  unfold F_X2_setKnower at h
  refine t_l fX2_setKnower_0 rfl rfl rfl rfl ?_
  refine k9_gr fX2_setKnower_1 (hr0).1 kg_2_0 (s2_0r hr0) ?_
  refine t_s fX2_setKnower_4 rfl rfl rfl ?_
  refine t_l fX2_setKnower_6 rfl rfl rfl rfl ?_
  obtain ⟨V1, v2, e3, h⟩ := bd_some h
  refine kcX7_put fX2_setKnower_8 (s2_0s hr0).1 rfl (q_X7_put (s2_0s hr0) e3) (by decide) ?_
  refine t_l fX2_setKnower_11 rfl rfl rfl rfl ?_
  refine k9_gr fX2_setKnower_12 (hr0).1 kg_2_0 (s2_0r hr0) ?_
  refine t_s fX2_setKnower_15 rfl rfl rfl ?_
  refine t_l fX2_setKnower_17 rfl rfl rfl rfl ?_
  refine t_l fX2_setKnower_18 rfl rfl rfl rfl ?_
  refine t_l fX2_setKnower_19 rfl rfl rfl rfl ?_
  obtain ⟨V4, v5, e6, h⟩ := bd_some h
  refine kcX1_sameWard fX2_setKnower_20 (hr1).1 rfl (q_X1_sameWard (hr1) e6) (by decide) ?_
  obtain ⟨g8, h⟩ := gd_some h
  refine k9_if_eq fX2_setKnower_23 rfl g8 (fun c7 => ?_) (fun c7 => ?_)
  · replace h := ite_t (c7) h
    refine t_s fX2_setKnower_30 rfl rfl rfl ?_
    obtain ⟨V9, v10, e11, h⟩ := bd_some h
    refine kcX7_put fX2_setKnower_31 (s2_0s hr0).1 rfl (q_X7_put (s2_0s hr0) e11) (by decide) ?_
    refine t_ret fX2_setKnower_34 rX2_setKnower ?_
    exact qf_v h
  · replace h := ite_f (c7) h
    refine t_s fX2_setKnower_26 rfl rfl rfl ?_
    refine k9_goto fX2_setKnower_27 rfl ?_
    obtain ⟨V12, v13, e14, h⟩ := bd_some h
    refine kcX7_put fX2_setKnower_31 (s2_0s hr0).1 rfl (q_X7_put (s2_0s hr0) e14) (by decide) ?_
    refine t_ret fX2_setKnower_34 rX2_setKnower ?_
    exact qf_v h

theorem q_X4_pointsOf {X : mX} {n z : Nat} {G : mG} {r0 : Nat} (hr0 : is4 G r0) {x1 x2 : Int} {V V' : mV} {v : Int} (h : F_X4_pointsOf G r0 x1 x2 V = some (V', v)) : Rn X (1) 45 [.ref r0, .int (iI x1), .int (iI x2)] n z G V n z G V' (some (.int (iI v))) := by
  refine qi_toR (v := v) (L := [some (.ref r0), some (.int (iI x1)), some (.int (iI x2))]) rfl ?_
  unfold F_X4_pointsOf at h
  refine t_l fX4_pointsOf_0 rfl rfl rfl rfl ?_
  refine k9_gr fX4_pointsOf_1 (hr0).1 kg_4_3 (s4_3r hr0) ?_
  refine t_l fX4_pointsOf_4 rfl rfl rfl rfl ?_
  refine t_s fX4_pointsOf_5 rfl rfl rfl ?_
  refine k9_imul fX4_pointsOf_7 ?_
  refine t_l fX4_pointsOf_8 rfl rfl rfl rfl ?_
  refine k9_iadd fX4_pointsOf_9 ?_
  obtain ⟨V1, v2, e3, h⟩ := bd_some h
  refine kcX7_get fX4_pointsOf_10 (s4_3s hr0).1 rfl (q_X7_get (s4_3s hr0) e3) (by decide) ?_
  refine t_ret fX4_pointsOf_13 rX4_pointsOf ?_
  exact qf_i h

theorem tb_X2_noticeAll_3 {X : mX} {n z : Nat} {G : mG} {r0 r1 r2 : Nat} (hr0 : is2 G r0) (hr1 : is1 G r1) (hr2 : is4 G r2) {x3 x4 x5 : Int} {V V' : mV} {q : Nat × Int} {Q : Nat → Nat → mG → mV → Option Value → Prop} (h0 : q.1 = 0 → T X (4) 23 3 [some (.ref r0), some (.ref r1), some (.ref r2), some (.int (iI x3)), some (.int (iI x4)), some (.int (iI q.2))] [] n z G V' Q) (h1 : q.1 = 1 → T X (4) 23 100 [some (.ref r0), some (.ref r1), some (.ref r2), some (.int (iI x3)), some (.int (iI x4)), some (.int (iI q.2))] [] n z G V' Q) (h : B_X2_noticeAll_3 G r0 r1 r2 x3 x4 x5 V = some (V', q)) : T X (4) 23 3 [some (.ref r0), some (.ref r1), some (.ref r2), some (.int (iI x3)), some (.int (iI x4)), some (.int (iI x5))] [] n z G V Q := by
  unfold B_X2_noticeAll_3 at h
  refine t_l fX2_noticeAll_3 rfl rfl rfl rfl ?_
  refine t_l fX2_noticeAll_5 rfl rfl rfl rfl ?_
  refine k9_gr fX2_noticeAll_6 (hr1).1 kg_1_0 (s1_0r hr1) ?_
  obtain ⟨V1, v2, e3, h⟩ := bd_some h
  refine kcX7_size fX2_noticeAll_9 (s1_0s hr1).1 rfl (q_X7_size (s1_0s hr1) e3) (by decide) ?_
  obtain ⟨g5, h⟩ := gd_some h
  obtain ⟨g6, h⟩ := gd_some h
  refine k9_ic_ge fX2_noticeAll_12 rfl g5 g6 (fun c4 => ?_) (fun c4 => ?_)
  · replace h := ite_t (c4) h
    cases h
    exact h1 rfl
  · replace h := ite_f (c4) h
    refine t_l fX2_noticeAll_15 rfl rfl rfl rfl ?_
    refine t_l fX2_noticeAll_17 rfl rfl rfl rfl ?_
    obtain ⟨g8, h⟩ := gd_some h
    refine k9_ic_eq fX2_noticeAll_19 rfl g5 g8 (fun c7 => ?_) (fun c7 => ?_)
    · replace h := ite_t (c7) h
      replace h := lt_some h
      refine k9_iinc fX2_noticeAll_94 rfl (Nat.le_of_ble_eq_true rfl) rfl ?_
      refine k9_goto fX2_noticeAll_97 rfl ?_
      cases h
      exact h0 rfl
    · replace h := ite_f (c7) h
      refine t_l fX2_noticeAll_22 rfl rfl rfl rfl ?_
      refine t_l fX2_noticeAll_24 rfl rfl rfl rfl ?_
      obtain ⟨g11, h⟩ := gd_some h
      refine k9_ic_eq fX2_noticeAll_25 rfl g5 g11 (fun c10 => ?_) (fun c10 => ?_)
      · replace h := ite_t (c10) h
        replace h := lt_some h
        refine k9_iinc fX2_noticeAll_94 rfl (Nat.le_of_ble_eq_true rfl) rfl ?_
        refine k9_goto fX2_noticeAll_97 rfl ?_
        cases h
        exact h0 rfl
      · replace h := ite_f (c10) h
        refine t_l fX2_noticeAll_28 rfl rfl rfl rfl ?_
        refine k9_gr fX2_noticeAll_29 (hr2).1 kg_4_1 (s4_1r hr2) ?_
        refine t_l fX2_noticeAll_32 rfl rfl rfl rfl ?_
        obtain ⟨V13, v14, e15, h⟩ := bd_some h
        refine kcX7_get fX2_noticeAll_34 (s4_1s hr2).1 rfl (q_X7_get (s4_1s hr2) e15) (by decide) ?_
        refine t_s fX2_noticeAll_37 rfl rfl rfl ?_
        obtain ⟨g17, h⟩ := gd_some h
        refine k9_ic_eq fX2_noticeAll_38 rfl g17 ⟨by decide, by decide⟩ (fun c16 => ?_) (fun c16 => ?_)
        · replace h := ite_t (c16) h
          replace h := lt_some h
          refine k9_iinc fX2_noticeAll_94 rfl (Nat.le_of_ble_eq_true rfl) rfl ?_
          refine k9_goto fX2_noticeAll_97 rfl ?_
          cases h
          exact h0 rfl
        · replace h := ite_f (c16) h
          refine t_l fX2_noticeAll_41 rfl rfl rfl rfl ?_
          refine t_l fX2_noticeAll_42 rfl rfl rfl rfl ?_
          refine t_l fX2_noticeAll_43 rfl rfl rfl rfl ?_
          refine t_l fX2_noticeAll_45 rfl rfl rfl rfl ?_
          refine t_l fX2_noticeAll_46 rfl rfl rfl rfl ?_
          refine t_l fX2_noticeAll_47 rfl rfl rfl rfl ?_
          refine t_l fX2_noticeAll_49 rfl rfl rfl rfl ?_
          obtain ⟨V19, v20, e21, h⟩ := bd_some h
          refine kcX4_pointsOf fX2_noticeAll_50 (hr2).1 rfl (q_X4_pointsOf (hr2) e21) (by decide) ?_
          obtain ⟨V22, v23, e24, h⟩ := bd_some h
          refine kcX2_setKnower fX2_noticeAll_53 (hr0).1 rfl rfl (q_X2_setKnower (hr0) (hr1) e24) (by decide) ?_
          refine t_l fX2_noticeAll_56 rfl rfl rfl rfl ?_
          refine k9_gr fX2_noticeAll_57 (hr0).1 kg_2_0 (s2_0r hr0) ?_
          refine t_s fX2_noticeAll_60 rfl rfl rfl ?_
          refine t_l fX2_noticeAll_62 rfl rfl rfl rfl ?_
          refine t_l fX2_noticeAll_63 rfl rfl rfl rfl ?_
          refine t_l fX2_noticeAll_65 rfl rfl rfl rfl ?_
          obtain ⟨V25, v26, e27, h⟩ := bd_some h
          refine kcX4_pointsOf fX2_noticeAll_66 (hr2).1 rfl (q_X4_pointsOf (hr2) e27) (by decide) ?_
          obtain ⟨V28, v29, e30, h⟩ := bd_some h
          refine kcX7_put fX2_noticeAll_69 (s2_0s hr0).1 rfl (q_X7_put (s2_0s hr0) e30) (by decide) ?_
          refine t_l fX2_noticeAll_72 rfl rfl rfl rfl ?_
          refine k9_gr fX2_noticeAll_73 (hr1).1 kg_1_13 (s1_13r hr1) ?_
          refine t_l fX2_noticeAll_76 rfl rfl rfl rfl ?_
          refine k9_gr fX2_noticeAll_77 (hr0).1 kg_2_0 (s2_0r hr0) ?_
          obtain ⟨V31, v32, e33, h⟩ := bd_some h
          refine kcX3_value fX2_noticeAll_80 (s1_13s hr1).1 rfl rfl (q_X3_value (s1_13s hr1) (s2_0s hr0) e33) (by decide) ?_
          obtain ⟨g35, h⟩ := gd_some h
          refine k9_if_eq fX2_noticeAll_83 rfl g35 (fun c34 => ?_) (fun c34 => ?_)
          · replace h := ite_t (c34) h
            replace h := lt_some h
            refine k9_iinc fX2_noticeAll_94 rfl (Nat.le_of_ble_eq_true rfl) rfl ?_
            refine k9_goto fX2_noticeAll_97 rfl ?_
            cases h
            exact h0 rfl
          · replace h := ite_f (c34) h
            refine t_l fX2_noticeAll_86 rfl rfl rfl rfl ?_
            refine t_s fX2_noticeAll_87 rfl rfl rfl ?_
            refine t_l fX2_noticeAll_88 rfl rfl rfl rfl ?_
            refine t_l fX2_noticeAll_89 rfl rfl rfl rfl ?_
            obtain ⟨V37, v38, e39, h⟩ := bd_some h
            refine kcX4_keep fX2_noticeAll_91 (hr2).1 rfl (q_X4_keep (hr2) e39) (by decide) ?_
            replace h := lt_some h
            refine k9_iinc fX2_noticeAll_94 rfl (Nat.le_of_ble_eq_true rfl) rfl ?_
            refine k9_goto fX2_noticeAll_97 rfl ?_
            cases h
            exact h0 rfl

theorem tl_X2_noticeAll_3 {X : mX} {n z : Nat} {G : mG} {r0 r1 r2 : Nat} (hr0 : is2 G r0) (hr1 : is1 G r1) (hr2 : is4 G r2) {x3 x4 x5 : Int} {V V' : mV} {fu : Nat} {q : Nat × Int} {Q : Nat → Nat → mG → mV → Option Value → Prop} (k1 : q.1 = 1 → T X (4) 23 100 [some (.ref r0), some (.ref r1), some (.ref r2), some (.int (iI x3)), some (.int (iI x4)), some (.int (iI q.2))] [] n z G V' Q) (h : lp (fun (s : Int) V => B_X2_noticeAll_3 G r0 r1 r2 x3 x4 s V) fu x5 V = some (V', q)) : T X (4) 23 3 [some (.ref r0), some (.ref r1), some (.ref r2), some (.int (iI x3)), some (.int (iI x4)), some (.int (iI x5))] [] n z G V Q :=
  lp_go (P0 := fun s V => T X (4) 23 3 [some (.ref r0), some (.ref r1), some (.ref r2), some (.int (iI x3)), some (.int (iI x4)), some (.int (iI s))] [] n z G V Q) (PE := fun t s V => (t = 1 → T X (4) 23 100 [some (.ref r0), some (.ref r1), some (.ref r2), some (.int (iI x3)), some (.int (iI x4)), some (.int (iI s))] [] n z G V Q)) (fun s V V' q hb h0 h1 => tb_X2_noticeAll_3 hr0 hr1 hr2  h0 (fun e => (h1 (by omega)) e) hb) fu x5 V V' q h k1

theorem q_X2_noticeAll {X : mX} {n z : Nat} {G : mG} {r0 r1 r2 : Nat} (hr0 : is2 G r0) (hr1 : is1 G r1) (hr2 : is4 G r2) {x3 x4 : Int} {V V' : mV} {v : Int} (h : F_X2_noticeAll G r0 r1 r2 x3 x4 V = some (V', v)) : Rn X (4) 23 [.ref r0, .ref r1, .ref r2, .int (iI x3), .int (iI x4)] n z G V n z G V' none := by
  refine qv_toR (v := v) (L := [some (.ref r0), some (.ref r1), some (.ref r2), some (.int (iI x3)), some (.int (iI x4)), none]) rfl ?_
  unfold F_X2_noticeAll at h
  refine t_s fX2_noticeAll_0 rfl rfl rfl ?_
  refine t_l fX2_noticeAll_1 rfl rfl rfl rfl ?_
  obtain ⟨V41, u42, e43, h⟩ := bd_some h
  refine tl_X2_noticeAll_3 hr0 hr1 hr2  (fun e44 => ?_) e43
  refine t_ret fX2_noticeAll_100 rX2_noticeAll ?_
  exact qf_v h

theorem q_X2_meetDuty {X : mX} {n z : Nat} {G : mG} {r0 r1 r2 : Nat} (hr0 : is2 G r0) (hr1 : is1 G r1) (hr2 : is4 G r2) {x3 x4 : Int} {V V' : mV} {v : Int} (h : F_X2_meetDuty G r0 r1 r2 x3 x4 V = some (V', v)) : Rn X (5) 21 [.ref r0, .ref r1, .ref r2, .int (iI x3), .int (iI x4)] n z G V n z G V' none := by
  refine qv_toR (v := v) (L := [some (.ref r0), some (.ref r1), some (.ref r2), some (.int (iI x3)), some (.int (iI x4)), none]) rfl ?_
  unfold F_X2_meetDuty at h
  refine t_l fX2_meetDuty_0 rfl rfl rfl rfl ?_
  refine k9_gr fX2_meetDuty_1 (hr2).1 kg_4_1 (s4_1r hr2) ?_
  refine t_l fX2_meetDuty_4 rfl rfl rfl rfl ?_
  obtain ⟨V1, v2, e3, h⟩ := bd_some h
  refine kcX7_find fX2_meetDuty_5 (s4_1s hr2).1 rfl (q_X7_find (s4_1s hr2) e3) (by decide) ?_
  refine t_l fX2_meetDuty_8 rfl rfl rfl rfl ?_
  refine t_l fX2_meetDuty_10 rfl rfl rfl rfl ?_
  refine t_s fX2_meetDuty_12 rfl rfl rfl ?_
  obtain ⟨g5, h⟩ := gd_some h
  refine k9_ic_ne fX2_meetDuty_13 rfl g5 ⟨by decide, by decide⟩ (fun c4 => ?_) (fun c4 => ?_)
  · replace h := ite_f (c4) h
    refine t_l fX2_meetDuty_27 rfl rfl rfl rfl ?_
    refine t_l fX2_meetDuty_28 rfl rfl rfl rfl ?_
    refine t_l fX2_meetDuty_29 rfl rfl rfl rfl ?_
    refine t_l fX2_meetDuty_31 rfl rfl rfl rfl ?_
    refine t_l fX2_meetDuty_32 rfl rfl rfl rfl ?_
    refine t_l fX2_meetDuty_34 rfl rfl rfl rfl ?_
    refine t_l fX2_meetDuty_35 rfl rfl rfl rfl ?_
    refine t_l fX2_meetDuty_37 rfl rfl rfl rfl ?_
    obtain ⟨V6, v7, e8, h⟩ := bd_some h
    refine kcX4_pointsOf fX2_meetDuty_38 (hr2).1 rfl (q_X4_pointsOf (hr2) e8) (by decide) ?_
    obtain ⟨V9, v10, e11, h⟩ := bd_some h
    refine kcX2_able fX2_meetDuty_41 (hr0).1 rfl rfl (q_X2_able (hr0) (hr1) e11) (by decide) ?_
    obtain ⟨g13, h⟩ := gd_some h
    refine k9_if_ne fX2_meetDuty_44 rfl g13 (fun c12 => ?_) (fun c12 => ?_)
    · replace h := ite_f (c12) h
      refine t_l fX2_meetDuty_79 rfl rfl rfl rfl ?_
      refine t_l fX2_meetDuty_81 rfl rfl rfl rfl ?_
      obtain ⟨g15, h⟩ := gd_some h
      refine k9_ic_eq fX2_meetDuty_82 rfl g5 g15 (fun c14 => ?_) (fun c14 => ?_)
      · replace h := ite_t (c14) h
        refine t_ret fX2_meetDuty_104 rX2_meetDuty ?_
        exact qf_v h
      · replace h := ite_f (c14) h
        refine t_l fX2_meetDuty_85 rfl rfl rfl rfl ?_
        refine k9_gr fX2_meetDuty_86 (hr1).1 kg_1_13 (s1_13r hr1) ?_
        obtain ⟨V16, v17, e18, h⟩ := bd_some h
        refine kcX3_isTold fX2_meetDuty_89 (s1_13s hr1).1 rfl (q_X3_isTold (s1_13s hr1) e18) (by decide) ?_
        obtain ⟨g20, h⟩ := gd_some h
        refine k9_if_eq fX2_meetDuty_92 rfl g20 (fun c19 => ?_) (fun c19 => ?_)
        · replace h := ite_t (c19) h
          refine t_ret fX2_meetDuty_104 rX2_meetDuty ?_
          exact qf_v h
        · replace h := ite_f (c19) h
          refine t_l fX2_meetDuty_95 rfl rfl rfl rfl ?_
          refine t_l fX2_meetDuty_96 rfl rfl rfl rfl ?_
          refine t_l fX2_meetDuty_97 rfl rfl rfl rfl ?_
          refine t_l fX2_meetDuty_98 rfl rfl rfl rfl ?_
          refine t_l fX2_meetDuty_99 rfl rfl rfl rfl ?_
          obtain ⟨V21, v22, e23, h⟩ := bd_some h
          refine kcX2_noticeAll fX2_meetDuty_101 (hr0).1 rfl rfl rfl (q_X2_noticeAll (hr0) (hr1) (hr2) e23) (by decide) ?_
          refine t_ret fX2_meetDuty_104 rX2_meetDuty ?_
          exact qf_v h
    · replace h := ite_t (Classical.not_not.mp c12) h
      refine t_l fX2_meetDuty_47 rfl rfl rfl rfl ?_
      refine k9_gr fX2_meetDuty_48 (hr0).1 kg_2_5 (s2_5r hr0) ?_
      refine t_l fX2_meetDuty_51 rfl rfl rfl rfl ?_
      refine t_l fX2_meetDuty_53 rfl rfl rfl rfl ?_
      refine k9_gr fX2_meetDuty_54 (hr0).1 kg_2_5 (s2_5r hr0) ?_
      refine t_l fX2_meetDuty_57 rfl rfl rfl rfl ?_
      obtain ⟨V24, v25, e26, h⟩ := bd_some h
      refine kcX7_get fX2_meetDuty_59 (s2_5s hr0).1 rfl (q_X7_get (s2_5s hr0) e26) (by decide) ?_
      refine t_s fX2_meetDuty_62 rfl rfl rfl ?_
      refine k9_iadd fX2_meetDuty_63 ?_
      obtain ⟨V27, v28, e29, h⟩ := bd_some h
      refine kcX7_put fX2_meetDuty_64 (s2_5s hr0).1 rfl (q_X7_put (s2_5s hr0) e29) (by decide) ?_
      refine t_l fX2_meetDuty_67 rfl rfl rfl rfl ?_
      refine t_l fX2_meetDuty_68 rfl rfl rfl rfl ?_
      refine t_s fX2_meetDuty_69 rfl rfl rfl ?_
      refine t_l fX2_meetDuty_70 rfl rfl rfl rfl ?_
      refine t_l fX2_meetDuty_71 rfl rfl rfl rfl ?_
      obtain ⟨V30, v31, e32, h⟩ := bd_some h
      refine kcX2_fail fX2_meetDuty_73 (hr0).1 rfl rfl (q_X2_fail (hr0) (hr2) e32) (by decide) ?_
      refine k9_goto fX2_meetDuty_76 rfl ?_
      refine t_ret fX2_meetDuty_104 rX2_meetDuty ?_
      exact qf_v h
  · replace h := ite_t (Classical.not_not.mp c4) h
    refine t_l fX2_meetDuty_16 rfl rfl rfl rfl ?_
    refine t_l fX2_meetDuty_17 rfl rfl rfl rfl ?_
    refine t_s fX2_meetDuty_18 rfl rfl rfl ?_
    refine t_l fX2_meetDuty_19 rfl rfl rfl rfl ?_
    refine t_s fX2_meetDuty_20 rfl rfl rfl ?_
    obtain ⟨V33, v34, e35, h⟩ := bd_some h
    refine kcX2_fail fX2_meetDuty_21 (hr0).1 rfl rfl (q_X2_fail (hr0) (hr2) e35) (by decide) ?_
    refine k9_goto fX2_meetDuty_24 rfl ?_
    refine t_ret fX2_meetDuty_104 rX2_meetDuty ?_
    exact qf_v h

theorem tb_X4_goHome_11 {X : mX} {n z : Nat} {G : mG} {r0 : Nat} (hr0 : is4 G r0) {x1 x2 : Int} {V V' : mV} {q : Nat × Int} {Q : Nat → Nat → mG → mV → Option Value → Prop} (h0 : q.1 = 0 → T X (2) 43 11 [some (.ref r0), some (.int (iI x1)), some (.int (iI q.2))] [] n z G V' Q) (h1 : q.1 = 1 → T X (2) 43 31 [some (.ref r0), some (.int (iI x1)), some (.int (iI q.2))] [] n z G V' Q) (h : B_X4_goHome_11 G r0 x1 x2 V = some (V', q)) : T X (2) 43 11 [some (.ref r0), some (.int (iI x1)), some (.int (iI x2))] [] n z G V Q := by
  unfold B_X4_goHome_11 at h
  refine t_l fX4_goHome_11 rfl rfl rfl rfl ?_
  refine t_l fX4_goHome_12 rfl rfl rfl rfl ?_
  obtain ⟨g5, h⟩ := gd_some h
  obtain ⟨g6, h⟩ := gd_some h
  refine k9_ic_ge fX4_goHome_13 rfl g5 g6 (fun c4 => ?_) (fun c4 => ?_)
  · replace h := ite_t (c4) h
    cases h
    exact h1 rfl
  · replace h := ite_f (c4) h
    refine t_l fX4_goHome_16 rfl rfl rfl rfl ?_
    refine k9_gr fX4_goHome_17 (hr0).1 kg_4_1 (s4_1r hr0) ?_
    refine t_l fX4_goHome_20 rfl rfl rfl rfl ?_
    refine t_l fX4_goHome_21 rfl rfl rfl rfl ?_
    obtain ⟨V7, v8, e9, h⟩ := bd_some h
    refine kcX7_put fX4_goHome_22 (s4_1s hr0).1 rfl (q_X7_put (s4_1s hr0) e9) (by decide) ?_
    replace h := lt_some h
    refine k9_iinc fX4_goHome_25 rfl (Nat.le_of_ble_eq_true rfl) rfl ?_
    refine k9_goto fX4_goHome_28 rfl ?_
    cases h
    exact h0 rfl

theorem tl_X4_goHome_11 {X : mX} {n z : Nat} {G : mG} {r0 : Nat} (hr0 : is4 G r0) {x1 x2 : Int} {V V' : mV} {fu : Nat} {q : Nat × Int} {Q : Nat → Nat → mG → mV → Option Value → Prop} (k1 : q.1 = 1 → T X (2) 43 31 [some (.ref r0), some (.int (iI x1)), some (.int (iI q.2))] [] n z G V' Q) (h : lp (fun (s : Int) V => B_X4_goHome_11 G r0 x1 s V) fu x2 V = some (V', q)) : T X (2) 43 11 [some (.ref r0), some (.int (iI x1)), some (.int (iI x2))] [] n z G V Q :=
  lp_go (P0 := fun s V => T X (2) 43 11 [some (.ref r0), some (.int (iI x1)), some (.int (iI s))] [] n z G V Q) (PE := fun t s V => (t = 1 → T X (2) 43 31 [some (.ref r0), some (.int (iI x1)), some (.int (iI s))] [] n z G V Q)) (fun s V V' q hb h0 h1 => tb_X4_goHome_11 hr0  h0 (fun e => (h1 (by omega)) e) hb) fu x2 V V' q h k1

theorem q_X4_goHome {X : mX} {n z : Nat} {G : mG} {r0 : Nat} (hr0 : is4 G r0) {x1 : Int} {V V' : mV} {v : Int} (h : F_X4_goHome G r0 x1 V = some (V', v)) : Rn X (2) 43 [.ref r0, .int (iI x1)] n z G V n z G V' none := by
  refine qv_toR (v := v) (L := [some (.ref r0), some (.int (iI x1)), none]) rfl ?_
  unfold F_X4_goHome at h
  refine t_l fX4_goHome_0 rfl rfl rfl rfl ?_
  refine k9_gr fX4_goHome_1 (hr0).1 kg_4_1 (s4_1r hr0) ?_
  refine t_l fX4_goHome_4 rfl rfl rfl rfl ?_
  refine t_s fX4_goHome_5 rfl rfl rfl ?_
  obtain ⟨V1, v2, e3, h⟩ := bd_some h
  refine kcX7_fill fX4_goHome_6 (s4_1s hr0).1 rfl (q_X7_fill (s4_1s hr0) e3) (by decide) ?_
  refine t_s fX4_goHome_9 rfl rfl rfl ?_
  refine t_l fX4_goHome_10 rfl rfl rfl rfl ?_
  obtain ⟨V11, u12, e13, h⟩ := bd_some h
  refine tl_X4_goHome_11 hr0  (fun e14 => ?_) e13
  refine t_ret fX4_goHome_31 rX4_goHome ?_
  exact qf_v h

theorem q_X4_setPoints {X : mX} {n z : Nat} {G : mG} {r0 : Nat} (hr0 : is4 G r0) {x1 x2 x3 : Int} {V V' : mV} {v : Int} (h : F_X4_setPoints G r0 x1 x2 x3 V = some (V', v)) : Rn X (1) 46 [.ref r0, .int (iI x1), .int (iI x2), .int (iI x3)] n z G V n z G V' none := by
  refine qv_toR (v := v) (L := [some (.ref r0), some (.int (iI x1)), some (.int (iI x2)), some (.int (iI x3))]) rfl ?_
  unfold F_X4_setPoints at h
  refine t_l fX4_setPoints_0 rfl rfl rfl rfl ?_
  refine k9_gr fX4_setPoints_1 (hr0).1 kg_4_3 (s4_3r hr0) ?_
  refine t_l fX4_setPoints_4 rfl rfl rfl rfl ?_
  refine t_s fX4_setPoints_5 rfl rfl rfl ?_
  refine k9_imul fX4_setPoints_7 ?_
  refine t_l fX4_setPoints_8 rfl rfl rfl rfl ?_
  refine k9_iadd fX4_setPoints_9 ?_
  refine t_s fX4_setPoints_10 rfl rfl rfl ?_
  refine t_s fX4_setPoints_11 rfl rfl rfl ?_
  refine t_l fX4_setPoints_13 rfl rfl rfl rfl ?_
  obtain ⟨g1, h⟩ := gd_some h
  refine kcM_min fX4_setPoints_14 rfl (eM_min ⟨by decide, by decide⟩ g1) (by decide) ?_
  obtain ⟨g2, h⟩ := gd_some h
  refine kcM_max fX4_setPoints_17 rfl (eM_max ⟨by decide, by decide⟩ g2) (by decide) ?_
  obtain ⟨V3, v4, e5, h⟩ := bd_some h
  refine kcX7_put fX4_setPoints_20 (s4_3s hr0).1 rfl (q_X7_put (s4_3s hr0) e5) (by decide) ?_
  refine t_ret fX4_setPoints_23 rX4_setPoints ?_
  exact qf_v h

theorem tb_X2_passNight_36 {X : mX} {n z : Nat} {G : mG} {r0 r1 r2 : Nat} (hr0 : is2 G r0) (hr1 : is1 G r1) (hr2 : is4 G r2) {x3 x4 x5 : Int} {V V' : mV} {q : Nat × Int} {Q : Nat → Nat → mG → mV → Option Value → Prop} (h0 : q.1 = 0 → T X (4) 20 36 [some (.ref r0), some (.ref r1), some (.ref r2), some (.int (iI x3)), some (.int (iI x4)), some (.int (iI q.2))] [] n z G V' Q) (h1 : q.1 = 1 → T X (4) 20 91 [some (.ref r0), some (.ref r1), some (.ref r2), some (.int (iI x3)), some (.int (iI x4)), some (.int (iI q.2))] [] n z G V' Q) (h : B_X2_passNight_36 G r0 r1 r2 x3 x4 x5 V = some (V', q)) : T X (4) 20 36 [some (.ref r0), some (.ref r1), some (.ref r2), some (.int (iI x3)), some (.int (iI x4)), some (.int (iI x5))] [] n z G V Q := by
  unfold B_X2_passNight_36 at h
  refine t_l fX2_passNight_36 rfl rfl rfl rfl ?_
  refine t_l fX2_passNight_38 rfl rfl rfl rfl ?_
  obtain ⟨g16, h⟩ := gd_some h
  obtain ⟨g17, h⟩ := gd_some h
  refine k9_ic_ge fX2_passNight_39 rfl g16 g17 (fun c15 => ?_) (fun c15 => ?_)
  · replace h := ite_t (c15) h
    cases h
    exact h1 rfl
  · replace h := ite_f (c15) h
    refine t_l fX2_passNight_42 rfl rfl rfl rfl ?_
    refine t_l fX2_passNight_44 rfl rfl rfl rfl ?_
    obtain ⟨g19, h⟩ := gd_some h
    refine k9_ic_eq fX2_passNight_46 rfl g16 g19 (fun c18 => ?_) (fun c18 => ?_)
    · replace h := ite_t (c18) h
      replace h := lt_some h
      refine k9_iinc fX2_passNight_85 rfl (Nat.le_of_ble_eq_true rfl) rfl ?_
      refine k9_goto fX2_passNight_88 rfl ?_
      cases h
      exact h0 rfl
    · replace h := ite_f (c18) h
      refine t_l fX2_passNight_49 rfl rfl rfl rfl ?_
      refine t_l fX2_passNight_50 rfl rfl rfl rfl ?_
      refine t_l fX2_passNight_51 rfl rfl rfl rfl ?_
      refine t_l fX2_passNight_53 rfl rfl rfl rfl ?_
      refine t_l fX2_passNight_55 rfl rfl rfl rfl ?_
      refine t_l fX2_passNight_56 rfl rfl rfl rfl ?_
      refine t_l fX2_passNight_58 rfl rfl rfl rfl ?_
      obtain ⟨V21, v22, e23, h⟩ := bd_some h
      refine kcX4_pointsOf fX2_passNight_60 (hr2).1 rfl (q_X4_pointsOf (hr2) e23) (by decide) ?_
      obtain ⟨V24, v25, e26, h⟩ := bd_some h
      refine kcX2_setKnower fX2_passNight_63 (hr0).1 rfl rfl (q_X2_setKnower (hr0) (hr1) e26) (by decide) ?_
      refine t_l fX2_passNight_66 rfl rfl rfl rfl ?_
      refine t_l fX2_passNight_67 rfl rfl rfl rfl ?_
      refine t_l fX2_passNight_69 rfl rfl rfl rfl ?_
      refine t_l fX2_passNight_71 rfl rfl rfl rfl ?_
      refine k9_gr fX2_passNight_72 (hr1).1 kg_1_11 (s1_11r hr1) ?_
      refine t_l fX2_passNight_75 rfl rfl rfl rfl ?_
      refine k9_gr fX2_passNight_76 (hr0).1 kg_2_0 (s2_0r hr0) ?_
      obtain ⟨V27, v28, e29, h⟩ := bd_some h
      refine kcX3_value fX2_passNight_79 (s1_11s hr1).1 rfl rfl (q_X3_value (s1_11s hr1) (s2_0s hr0) e29) (by decide) ?_
      obtain ⟨V30, v31, e32, h⟩ := bd_some h
      refine kcX4_setPoints fX2_passNight_82 (hr2).1 rfl (q_X4_setPoints (hr2) e32) (by decide) ?_
      replace h := lt_some h
      refine k9_iinc fX2_passNight_85 rfl (Nat.le_of_ble_eq_true rfl) rfl ?_
      refine k9_goto fX2_passNight_88 rfl ?_
      cases h
      exact h0 rfl

theorem tl_X2_passNight_36 {X : mX} {n z : Nat} {G : mG} {r0 r1 r2 : Nat} (hr0 : is2 G r0) (hr1 : is1 G r1) (hr2 : is4 G r2) {x3 x4 x5 : Int} {V V' : mV} {fu : Nat} {q : Nat × Int} {Q : Nat → Nat → mG → mV → Option Value → Prop} (k1 : q.1 = 1 → T X (4) 20 91 [some (.ref r0), some (.ref r1), some (.ref r2), some (.int (iI x3)), some (.int (iI x4)), some (.int (iI q.2))] [] n z G V' Q) (h : lp (fun (s : Int) V => B_X2_passNight_36 G r0 r1 r2 x3 x4 s V) fu x5 V = some (V', q)) : T X (4) 20 36 [some (.ref r0), some (.ref r1), some (.ref r2), some (.int (iI x3)), some (.int (iI x4)), some (.int (iI x5))] [] n z G V Q :=
  lp_go (P0 := fun s V => T X (4) 20 36 [some (.ref r0), some (.ref r1), some (.ref r2), some (.int (iI x3)), some (.int (iI x4)), some (.int (iI s))] [] n z G V Q) (PE := fun t s V => (t = 1 → T X (4) 20 91 [some (.ref r0), some (.ref r1), some (.ref r2), some (.int (iI x3)), some (.int (iI x4)), some (.int (iI s))] [] n z G V Q)) (fun s V V' q hb h0 h1 => tb_X2_passNight_36 hr0 hr1 hr2  h0 (fun e => (h1 (by omega)) e) hb) fu x5 V V' q h k1

theorem tb_X2_passNight_27 {X : mX} {n z : Nat} {G : mG} {r0 r1 r2 : Nat} (hr0 : is2 G r0) (hr1 : is1 G r1) (hr2 : is4 G r2) {x3 x4 : Int} {j5 : Option Value} {V V' : mV} {q : Nat × Int} {Q : Nat → Nat → mG → mV → Option Value → Prop} (h0 : q.1 = 0 → ∀ j5 : Option Value, T X (4) 20 27 [some (.ref r0), some (.ref r1), some (.ref r2), some (.int (iI x3)), some (.int (iI q.2)), j5] [] n z G V' Q) (h1 : q.1 = 1 → ∀ j3 j5 : Option Value, T X (4) 20 97 [some (.ref r0), some (.ref r1), some (.ref r2), j3, some (.int (iI q.2)), j5] [] n z G V' Q) (h : B_X2_passNight_27 G r0 r1 r2 x3 x4 V = some (V', q)) : T X (4) 20 27 [some (.ref r0), some (.ref r1), some (.ref r2), some (.int (iI x3)), some (.int (iI x4)), j5] [] n z G V Q := by
  unfold B_X2_passNight_27 at h
  refine t_l fX2_passNight_27 rfl rfl rfl rfl ?_
  refine t_l fX2_passNight_29 rfl rfl rfl rfl ?_
  obtain ⟨g13, h⟩ := gd_some h
  obtain ⟨g14, h⟩ := gd_some h
  refine k9_ic_ge fX2_passNight_30 rfl g13 g14 (fun c12 => ?_) (fun c12 => ?_)
  · replace h := ite_t (c12) h
    cases h
    exact h1 rfl _ _
  · replace h := ite_f (c12) h
    refine t_s fX2_passNight_33 rfl rfl rfl ?_
    refine t_l fX2_passNight_34 rfl rfl rfl rfl ?_
    obtain ⟨V34, u35, e36, h⟩ := bd_some h
    refine tl_X2_passNight_36 hr0 hr1 hr2  (fun e37 => ?_) e36
    replace h := lt_some h
    refine k9_iinc fX2_passNight_91 rfl (Nat.le_of_ble_eq_true rfl) rfl ?_
    refine k9_goto fX2_passNight_94 rfl ?_
    cases h
    exact h0 rfl _

theorem tl_X2_passNight_27 {X : mX} {n z : Nat} {G : mG} {r0 r1 r2 : Nat} (hr0 : is2 G r0) (hr1 : is1 G r1) (hr2 : is4 G r2) {x3 x4 : Int} {j5 : Option Value} {V V' : mV} {fu : Nat} {q : Nat × Int} {Q : Nat → Nat → mG → mV → Option Value → Prop} (k1 : q.1 = 1 → ∀ j3 j5 : Option Value, T X (4) 20 97 [some (.ref r0), some (.ref r1), some (.ref r2), j3, some (.int (iI q.2)), j5] [] n z G V' Q) (h : lp (fun (s : Int) V => B_X2_passNight_27 G r0 r1 r2 x3 s V) fu x4 V = some (V', q)) : T X (4) 20 27 [some (.ref r0), some (.ref r1), some (.ref r2), some (.int (iI x3)), some (.int (iI x4)), j5] [] n z G V Q :=
  lp_go (P0 := fun s V => ∀ j5 : Option Value, T X (4) 20 27 [some (.ref r0), some (.ref r1), some (.ref r2), some (.int (iI x3)), some (.int (iI s)), j5] [] n z G V Q) (PE := fun t s V => (t = 1 → ∀ j3 j5 : Option Value, T X (4) 20 97 [some (.ref r0), some (.ref r1), some (.ref r2), j3, some (.int (iI s)), j5] [] n z G V Q)) (fun s V V' q hb h0 h1 => fun _ => tb_X2_passNight_27 hr0 hr1 hr2  h0 (fun e => (h1 (by omega)) e) hb) fu x4 V V' q h k1 _

theorem q_X2_passNight {X : mX} {n z : Nat} {G : mG} {r0 r1 r2 : Nat} (hr0 : is2 G r0) (hr1 : is1 G r1) (hr2 : is4 G r2) {V V' : mV} {v : Int} (h : F_X2_passNight G r0 r1 r2 V = some (V', v)) : Rn X (4) 20 [.ref r0, .ref r1, .ref r2] n z G V n z G V' none := by
  refine qv_toR (v := v) (L := [some (.ref r0), some (.ref r1), some (.ref r2), none, none, none]) rfl ?_
  unfold F_X2_passNight at h
  refine t_l fX2_passNight_0 rfl rfl rfl rfl ?_
  refine k9_gr fX2_passNight_1 (hr1).1 kg_1_0 (s1_0r hr1) ?_
  obtain ⟨V1, v2, e3, h⟩ := bd_some h
  refine kcX7_size fX2_passNight_4 (s1_0s hr1).1 rfl (q_X7_size (s1_0s hr1) e3) (by decide) ?_
  refine t_l fX2_passNight_7 rfl rfl rfl rfl ?_
  refine t_l fX2_passNight_8 rfl rfl rfl rfl ?_
  refine t_l fX2_passNight_9 rfl rfl rfl rfl ?_
  obtain ⟨V4, v5, e6, h⟩ := bd_some h
  refine kcX4_goHome fX2_passNight_10 (hr2).1 rfl (q_X4_goHome (hr2) e6) (by decide) ?_
  refine t_l fX2_passNight_13 rfl rfl rfl rfl ?_
  refine k9_gr fX2_passNight_14 (hr1).1 kg_1_11 (s1_11r hr1) ?_
  obtain ⟨V7, v8, e9, h⟩ := bd_some h
  refine kcX3_isTold fX2_passNight_17 (s1_11s hr1).1 rfl (q_X3_isTold (s1_11s hr1) e9) (by decide) ?_
  obtain ⟨g11, h⟩ := gd_some h
  refine k9_if_ne fX2_passNight_20 rfl g11 (fun c10 => ?_) (fun c10 => ?_)
  · replace h := ite_f (c10) h
    refine t_s fX2_passNight_24 rfl rfl rfl ?_
    refine t_l fX2_passNight_25 rfl rfl rfl rfl ?_
    obtain ⟨V39, u40, e41, h⟩ := bd_some h
    refine tl_X2_passNight_27 hr0 hr1 hr2  (fun e42 j3 j5 => ?_) e41
    refine t_ret fX2_passNight_97 rX2_passNight ?_
    exact qf_v h
  · replace h := ite_t (Classical.not_not.mp c10) h
    refine t_ret fX2_passNight_23 rX2_passNight ?_
    exact qf_v h

theorem q_X2_setTime {X : mX} {n z : Nat} {G : mG} {r0 : Nat} (hr0 : is2 G r0) {x1 x2 : Int} {V V' : mV} {v : Int} (h : F_X2_setTime G r0 x1 x2 V = some (V', v)) : Rn X (1) 30 [.ref r0, .int (iI x1), .int (iI x2)] n z G V n z G V' none := by
  refine qv_toR (v := v) (L := [some (.ref r0), some (.int (iI x1)), some (.int (iI x2))]) rfl ?_
  unfold F_X2_setTime at h
  refine t_l fX2_setTime_0 rfl rfl rfl rfl ?_
  refine k9_gr fX2_setTime_1 (hr0).1 kg_2_0 (s2_0r hr0) ?_
  refine t_s fX2_setTime_4 rfl rfl rfl ?_
  refine t_l fX2_setTime_6 rfl rfl rfl rfl ?_
  obtain ⟨V1, v2, e3, h⟩ := bd_some h
  refine kcX7_put fX2_setTime_7 (s2_0s hr0).1 rfl (q_X7_put (s2_0s hr0) e3) (by decide) ?_
  refine t_l fX2_setTime_10 rfl rfl rfl rfl ?_
  refine k9_gr fX2_setTime_11 (hr0).1 kg_2_0 (s2_0r hr0) ?_
  refine t_s fX2_setTime_14 rfl rfl rfl ?_
  refine t_l fX2_setTime_16 rfl rfl rfl rfl ?_
  obtain ⟨V4, v5, e6, h⟩ := bd_some h
  refine kcX7_put fX2_setTime_17 (s2_0s hr0).1 rfl (q_X7_put (s2_0s hr0) e6) (by decide) ?_
  refine t_ret fX2_setTime_20 rX2_setTime ?_
  exact qf_v h

theorem q_X2_learned {X : mX} {n z : Nat} {G : mG} {r0 r1 : Nat} (hr0 : is2 G r0) (hr1 : is1 G r1) {x2 x3 x4 x5 : Int} {V V' : mV} {v : Int} (h : F_X2_learned G r0 r1 x2 x3 x4 x5 V = some (V', v)) : Rn X (4) 25 [.ref r0, .ref r1, .int (iI x2), .int (iI x3), .int (iI x4), .int (iI x5)] n z G V n z G V' (some (.int (iI v))) := by
  refine qi_toR (v := v) (L := [some (.ref r0), some (.ref r1), some (.int (iI x2)), some (.int (iI x3)), some (.int (iI x4)), some (.int (iI x5))]) rfl ?_
  unfold F_X2_learned at h
  refine t_l fX2_learned_0 rfl rfl rfl rfl ?_
  refine k9_gr fX2_learned_1 (hr1).1 kg_1_10 (s1_10r hr1) ?_
  obtain ⟨V1, v2, e3, h⟩ := bd_some h
  refine kcX3_isTold fX2_learned_4 (s1_10s hr1).1 rfl (q_X3_isTold (s1_10s hr1) e3) (by decide) ?_
  obtain ⟨g5, h⟩ := gd_some h
  refine k9_if_ne fX2_learned_7 rfl g5 (fun c4 => ?_) (fun c4 => ?_)
  · replace h := ite_f (c4) h
    refine t_l fX2_learned_13 rfl rfl rfl rfl ?_
    refine t_l fX2_learned_14 rfl rfl rfl rfl ?_
    refine t_s fX2_learned_15 rfl rfl rfl ?_
    obtain ⟨g6, h⟩ := gd_some h
    refine k9_irem fX2_learned_17 g6 ⟨by decide, by decide⟩ (by decide) ?_
    refine t_l fX2_learned_18 rfl rfl rfl rfl ?_
    refine t_s fX2_learned_19 rfl rfl rfl ?_
    refine k9_idiv fX2_learned_21 g6 ⟨by decide, by decide⟩ (by decide) ?_
    obtain ⟨V7, v8, e9, h⟩ := bd_some h
    refine kcX2_setTime fX2_learned_22 (hr0).1 rfl (q_X2_setTime (hr0) e9) (by decide) ?_
    refine t_l fX2_learned_25 rfl rfl rfl rfl ?_
    refine t_l fX2_learned_26 rfl rfl rfl rfl ?_
    refine t_l fX2_learned_27 rfl rfl rfl rfl ?_
    refine t_l fX2_learned_28 rfl rfl rfl rfl ?_
    refine t_l fX2_learned_30 rfl rfl rfl rfl ?_
    obtain ⟨V10, v11, e12, h⟩ := bd_some h
    refine kcX2_setKnower fX2_learned_32 (hr0).1 rfl rfl (q_X2_setKnower (hr0) (hr1) e12) (by decide) ?_
    refine t_s fX2_learned_35 rfl rfl rfl ?_
    refine t_s fX2_learned_36 rfl rfl rfl ?_
    refine t_l fX2_learned_38 rfl rfl rfl rfl ?_
    refine k9_gr fX2_learned_39 (hr1).1 kg_1_10 (s1_10r hr1) ?_
    refine t_l fX2_learned_42 rfl rfl rfl rfl ?_
    refine k9_gr fX2_learned_43 (hr0).1 kg_2_0 (s2_0r hr0) ?_
    obtain ⟨V13, v14, e15, h⟩ := bd_some h
    refine kcX3_value fX2_learned_46 (s1_10s hr1).1 rfl rfl (q_X3_value (s1_10s hr1) (s2_0s hr0) e15) (by decide) ?_
    obtain ⟨g16, h⟩ := gd_some h
    refine kcM_min fX2_learned_49 rfl (eM_min ⟨by decide, by decide⟩ g16) (by decide) ?_
    obtain ⟨g17, h⟩ := gd_some h
    refine kcM_max fX2_learned_52 rfl (eM_max ⟨by decide, by decide⟩ g17) (by decide) ?_
    refine t_ret fX2_learned_55 rX2_learned ?_
    exact qf_i h
  · replace h := ite_t (Classical.not_not.mp c4) h
    refine t_l fX2_learned_10 rfl rfl rfl rfl ?_
    refine t_ret fX2_learned_12 rX2_learned ?_
    exact qf_i h

theorem tb_X2_watchAll_3 {X : mX} {n z : Nat} {G : mG} {r0 r1 r2 : Nat} (hr0 : is2 G r0) (hr1 : is1 G r1) (hr2 : is4 G r2) {x3 x4 : Int} {j5 j6 j7 : Option Value} {V V' : mV} {q : Nat × Int} {Q : Nat → Nat → mG → mV → Option Value → Prop} (h0 : q.1 = 0 → ∀ j5 j6 j7 : Option Value, T X (5) 24 3 [some (.ref r0), some (.ref r1), some (.ref r2), some (.int (iI x3)), some (.int (iI q.2)), j5, j6, j7] [] n z G V' Q) (h1 : q.1 = 1 → ∀ j5 j6 j7 : Option Value, T X (5) 24 97 [some (.ref r0), some (.ref r1), some (.ref r2), some (.int (iI x3)), some (.int (iI q.2)), j5, j6, j7] [] n z G V' Q) (h : B_X2_watchAll_3 G r0 r1 r2 x3 x4 V = some (V', q)) : T X (5) 24 3 [some (.ref r0), some (.ref r1), some (.ref r2), some (.int (iI x3)), some (.int (iI x4)), j5, j6, j7] [] n z G V Q := by
  unfold B_X2_watchAll_3 at h
  refine t_l fX2_watchAll_3 rfl rfl rfl rfl ?_
  refine t_l fX2_watchAll_5 rfl rfl rfl rfl ?_
  refine k9_gr fX2_watchAll_6 (hr1).1 kg_1_0 (s1_0r hr1) ?_
  obtain ⟨V1, v2, e3, h⟩ := bd_some h
  refine kcX7_size fX2_watchAll_9 (s1_0s hr1).1 rfl (q_X7_size (s1_0s hr1) e3) (by decide) ?_
  obtain ⟨g5, h⟩ := gd_some h
  obtain ⟨g6, h⟩ := gd_some h
  refine k9_ic_ge fX2_watchAll_12 rfl g5 g6 (fun c4 => ?_) (fun c4 => ?_)
  · replace h := ite_t (c4) h
    cases h
    exact h1 rfl _ _ _
  · replace h := ite_f (c4) h
    refine t_l fX2_watchAll_15 rfl rfl rfl rfl ?_
    refine k9_gr fX2_watchAll_16 (hr2).1 kg_4_1 (s4_1r hr2) ?_
    refine t_l fX2_watchAll_19 rfl rfl rfl rfl ?_
    obtain ⟨V7, v8, e9, h⟩ := bd_some h
    refine kcX7_get fX2_watchAll_21 (s4_1s hr2).1 rfl (q_X7_get (s4_1s hr2) e9) (by decide) ?_
    refine t_l fX2_watchAll_24 rfl rfl rfl rfl ?_
    refine t_l fX2_watchAll_26 rfl rfl rfl rfl ?_
    refine k9_gr fX2_watchAll_27 (hr2).1 kg_4_2 (s4_2r hr2) ?_
    refine t_l fX2_watchAll_30 rfl rfl rfl rfl ?_
    obtain ⟨V10, v11, e12, h⟩ := bd_some h
    refine kcX7_get fX2_watchAll_32 (s4_2s hr2).1 rfl (q_X7_get (s4_2s hr2) e12) (by decide) ?_
    refine t_l fX2_watchAll_35 rfl rfl rfl rfl ?_
    refine t_l fX2_watchAll_37 rfl rfl rfl rfl ?_
    refine t_s fX2_watchAll_39 rfl rfl rfl ?_
    obtain ⟨g14, h⟩ := gd_some h
    refine k9_ic_eq fX2_watchAll_40 rfl g14 ⟨by decide, by decide⟩ (fun c13 => ?_) (fun c13 => ?_)
    · replace h := ite_t (c13) h
      replace h := lt_some h
      refine k9_iinc fX2_watchAll_91 rfl (Nat.le_of_ble_eq_true rfl) rfl ?_
      refine k9_goto fX2_watchAll_94 rfl ?_
      cases h
      exact h0 rfl _ _ _
    · replace h := ite_f (c13) h
      refine t_l fX2_watchAll_43 rfl rfl rfl rfl ?_
      refine t_s fX2_watchAll_45 rfl rfl rfl ?_
      obtain ⟨g17, h⟩ := gd_some h
      refine k9_ic_eq fX2_watchAll_46 rfl g17 ⟨by decide, by decide⟩ (fun c16 => ?_) (fun c16 => ?_)
      · replace h := ite_t (c16) h
        replace h := lt_some h
        refine k9_iinc fX2_watchAll_91 rfl (Nat.le_of_ble_eq_true rfl) rfl ?_
        refine k9_goto fX2_watchAll_94 rfl ?_
        cases h
        exact h0 rfl _ _ _
      · replace h := ite_f (c16) h
        refine t_l fX2_watchAll_49 rfl rfl rfl rfl ?_
        refine t_l fX2_watchAll_50 rfl rfl rfl rfl ?_
        obtain ⟨g19, h⟩ := gd_some h
        obtain ⟨g20, h⟩ := gd_some h
        refine k8_ishr fX2_watchAll_52 g19 g20 ?_
        refine t_s fX2_watchAll_53 rfl rfl rfl ?_
        refine k8_iand2 fX2_watchAll_54 ?_
        obtain ⟨g22, h⟩ := gd_some h
        refine k9_if_ne fX2_watchAll_55 rfl g22 (fun c21 => ?_) (fun c21 => ?_)
        · replace h := ite_f (c21) h
          replace h := lt_some h
          refine k9_iinc fX2_watchAll_91 rfl (Nat.le_of_ble_eq_true rfl) rfl ?_
          refine k9_goto fX2_watchAll_94 rfl ?_
          cases h
          exact h0 rfl _ _ _
        · replace h := ite_t (Classical.not_not.mp c21) h
          refine t_l fX2_watchAll_58 rfl rfl rfl rfl ?_
          refine t_l fX2_watchAll_59 rfl rfl rfl rfl ?_
          refine t_l fX2_watchAll_61 rfl rfl rfl rfl ?_
          obtain ⟨V24, v25, e26, h⟩ := bd_some h
          refine kcX4_pointsOf fX2_watchAll_63 (hr2).1 rfl (q_X4_pointsOf (hr2) e26) (by decide) ?_
          refine t_l fX2_watchAll_66 rfl rfl rfl rfl ?_
          refine t_l fX2_watchAll_68 rfl rfl rfl rfl ?_
          refine t_l fX2_watchAll_69 rfl rfl rfl rfl ?_
          refine t_l fX2_watchAll_71 rfl rfl rfl rfl ?_
          refine t_l fX2_watchAll_73 rfl rfl rfl rfl ?_
          refine t_l fX2_watchAll_74 rfl rfl rfl rfl ?_
          refine t_l fX2_watchAll_75 rfl rfl rfl rfl ?_
          refine k9_gi fX2_watchAll_76 (hr2).1 kg_4_0 ?_
          refine t_l fX2_watchAll_79 rfl rfl rfl rfl ?_
          refine t_l fX2_watchAll_81 rfl rfl rfl rfl ?_
          refine t_l fX2_watchAll_83 rfl rfl rfl rfl ?_
          obtain ⟨V27, v28, e29, h⟩ := bd_some h
          refine kcX2_learned fX2_watchAll_85 (hr0).1 rfl rfl (q_X2_learned (hr0) (hr1) e29) (by decide) ?_
          obtain ⟨V30, v31, e32, h⟩ := bd_some h
          refine kcX4_setPoints fX2_watchAll_88 (hr2).1 rfl (q_X4_setPoints (hr2) e32) (by decide) ?_
          replace h := lt_some h
          refine k9_iinc fX2_watchAll_91 rfl (Nat.le_of_ble_eq_true rfl) rfl ?_
          refine k9_goto fX2_watchAll_94 rfl ?_
          cases h
          exact h0 rfl _ _ _

theorem tl_X2_watchAll_3 {X : mX} {n z : Nat} {G : mG} {r0 r1 r2 : Nat} (hr0 : is2 G r0) (hr1 : is1 G r1) (hr2 : is4 G r2) {x3 x4 : Int} {j5 j6 j7 : Option Value} {V V' : mV} {fu : Nat} {q : Nat × Int} {Q : Nat → Nat → mG → mV → Option Value → Prop} (k1 : q.1 = 1 → ∀ j5 j6 j7 : Option Value, T X (5) 24 97 [some (.ref r0), some (.ref r1), some (.ref r2), some (.int (iI x3)), some (.int (iI q.2)), j5, j6, j7] [] n z G V' Q) (h : lp (fun (s : Int) V => B_X2_watchAll_3 G r0 r1 r2 x3 s V) fu x4 V = some (V', q)) : T X (5) 24 3 [some (.ref r0), some (.ref r1), some (.ref r2), some (.int (iI x3)), some (.int (iI x4)), j5, j6, j7] [] n z G V Q :=
  lp_go (P0 := fun s V => ∀ j5 j6 j7 : Option Value, T X (5) 24 3 [some (.ref r0), some (.ref r1), some (.ref r2), some (.int (iI x3)), some (.int (iI s)), j5, j6, j7] [] n z G V Q) (PE := fun t s V => (t = 1 → ∀ j5 j6 j7 : Option Value, T X (5) 24 97 [some (.ref r0), some (.ref r1), some (.ref r2), some (.int (iI x3)), some (.int (iI s)), j5, j6, j7] [] n z G V Q)) (fun s V V' q hb h0 h1 => fun _ _ _ => tb_X2_watchAll_3 hr0 hr1 hr2  h0 (fun e => (h1 (by omega)) e) hb) fu x4 V V' q h k1 _ _ _

theorem q_X2_watchAll {X : mX} {n z : Nat} {G : mG} {r0 r1 r2 : Nat} (hr0 : is2 G r0) (hr1 : is1 G r1) (hr2 : is4 G r2) {x3 : Int} {V V' : mV} {v : Int} (h : F_X2_watchAll G r0 r1 r2 x3 V = some (V', v)) : Rn X (5) 24 [.ref r0, .ref r1, .ref r2, .int (iI x3)] n z G V n z G V' none := by
  refine qv_toR (v := v) (L := [some (.ref r0), some (.ref r1), some (.ref r2), some (.int (iI x3)), none, none, none, none]) rfl ?_
  unfold F_X2_watchAll at h
  refine t_s fX2_watchAll_0 rfl rfl rfl ?_
  refine t_l fX2_watchAll_1 rfl rfl rfl rfl ?_
  obtain ⟨V34, u35, e36, h⟩ := bd_some h
  refine tl_X2_watchAll_3 hr0 hr1 hr2  (fun e37 j5 j6 j7 => ?_) e36
  refine t_ret fX2_watchAll_97 rX2_watchAll ?_
  exact qf_v h

theorem tb_X2_comes_56 {X : mX} {n z : Nat} {G : mG} {r0 r1 r2 : Nat} (hr0 : is2 G r0) (hr1 : is1 G r1) (hr2 : is4 G r2) {x3 x4 x5 : Int} {V V' : mV} {q : Nat × Int × Int} {Q : Nat → Nat → mG → mV → Option Value → Prop} (h0 : q.1 = 0 → T X (6) 19 56 [some (.ref r0), some (.ref r1), some (.ref r2), some (.int (iI x3)), some (.int (iI q.2.1)), some (.int (iI q.2.2))] [] n z G V' Q) (h1 : q.1 = 1 → ∀ j3 : Option Value, T X (6) 19 127 [some (.ref r0), some (.ref r1), some (.ref r2), j3, some (.int (iI q.2.1)), some (.int (iI q.2.2))] [] n z G V' Q) (h : B_X2_comes_56 G r0 r1 r2 x3 x4 x5 V = some (V', q)) : T X (6) 19 56 [some (.ref r0), some (.ref r1), some (.ref r2), some (.int (iI x3)), some (.int (iI x4)), some (.int (iI x5))] [] n z G V Q := by
  unfold B_X2_comes_56 at h
  refine t_l fX2_comes_56 rfl rfl rfl rfl ?_
  refine t_l fX2_comes_58 rfl rfl rfl rfl ?_
  refine k9_gr fX2_comes_59 (hr1).1 kg_1_9 (s1_9r hr1) ?_
  obtain ⟨V12, v13, e14, h⟩ := bd_some h
  refine kcX7_size fX2_comes_62 (s1_9s hr1).1 rfl (q_X7_size (s1_9s hr1) e14) (by decide) ?_
  obtain ⟨g16, h⟩ := gd_some h
  obtain ⟨g17, h⟩ := gd_some h
  refine k9_ic_ge fX2_comes_65 rfl g16 g17 (fun c15 => ?_) (fun c15 => ?_)
  · replace h := ite_t (c15) h
    cases h
    exact h1 rfl _
  · replace h := ite_f (c15) h
    refine t_l fX2_comes_68 rfl rfl rfl rfl ?_
    refine k9_gr fX2_comes_69 (hr1).1 kg_1_9 (s1_9r hr1) ?_
    refine t_l fX2_comes_72 rfl rfl rfl rfl ?_
    obtain ⟨V18, v19, e20, h⟩ := bd_some h
    refine kcX7_get fX2_comes_74 (s1_9s hr1).1 rfl (q_X7_get (s1_9s hr1) e20) (by decide) ?_
    refine t_l fX2_comes_77 rfl rfl rfl rfl ?_
    obtain ⟨g22, h⟩ := gd_some h
    obtain ⟨g23, h⟩ := gd_some h
    refine k9_ic_ne fX2_comes_78 rfl g22 g23 (fun c21 => ?_) (fun c21 => ?_)
    · replace h := ite_f (c21) h
      replace h := lt_some h
      refine k9_iinc fX2_comes_121 rfl (Nat.le_of_ble_eq_true rfl) rfl ?_
      refine k9_goto fX2_comes_124 rfl ?_
      cases h
      exact h0 rfl
    · replace h := ite_t (Classical.not_not.mp c21) h
      refine t_l fX2_comes_81 rfl rfl rfl rfl ?_
      refine t_s fX2_comes_83 rfl rfl rfl ?_
      refine t_l fX2_comes_84 rfl rfl rfl rfl ?_
      refine k9_gr fX2_comes_85 (hr1).1 kg_1_7 (s1_7r hr1) ?_
      refine t_l fX2_comes_88 rfl rfl rfl rfl ?_
      obtain ⟨V25, v26, e27, h⟩ := bd_some h
      refine kcX7_get fX2_comes_90 (s1_7s hr1).1 rfl (q_X7_get (s1_7s hr1) e27) (by decide) ?_
      obtain ⟨g28, h⟩ := gd_some h
      refine k8_ishl fX2_comes_93 g28 ?_
      obtain ⟨g29, h⟩ := gd_some h
      refine k8_ior fX2_comes_94 g29 ?_
      replace h := lt_some h
      refine t_l fX2_comes_95 rfl rfl rfl rfl ?_
      refine t_l fX2_comes_97 rfl rfl rfl rfl ?_
      refine t_l fX2_comes_98 rfl rfl rfl rfl ?_
      refine t_l fX2_comes_99 rfl rfl rfl rfl ?_
      refine t_l fX2_comes_100 rfl rfl rfl rfl ?_
      refine k9_gr fX2_comes_101 (hr1).1 kg_1_7 (s1_7r hr1) ?_
      refine t_l fX2_comes_104 rfl rfl rfl rfl ?_
      obtain ⟨V31, v32, e33, h⟩ := bd_some h
      refine kcX7_get fX2_comes_106 (s1_7s hr1).1 rfl (q_X7_get (s1_7s hr1) e33) (by decide) ?_
      refine t_l fX2_comes_109 rfl rfl rfl rfl ?_
      refine k9_gr fX2_comes_110 (hr1).1 kg_1_8 (s1_8r hr1) ?_
      refine t_l fX2_comes_113 rfl rfl rfl rfl ?_
      obtain ⟨V34, v35, e36, h⟩ := bd_some h
      refine kcX7_get fX2_comes_115 (s1_8s hr1).1 rfl (q_X7_get (s1_8s hr1) e36) (by decide) ?_
      obtain ⟨V37, v38, e39, h⟩ := bd_some h
      refine kcX2_meetDuty fX2_comes_118 (hr0).1 rfl rfl rfl (q_X2_meetDuty (hr0) (hr1) (hr2) e39) (by decide) ?_
      replace h := lt_some h
      refine k9_iinc fX2_comes_121 rfl (Nat.le_of_ble_eq_true rfl) rfl ?_
      refine k9_goto fX2_comes_124 rfl ?_
      cases h
      exact h0 rfl

theorem tl_X2_comes_56 {X : mX} {n z : Nat} {G : mG} {r0 r1 r2 : Nat} (hr0 : is2 G r0) (hr1 : is1 G r1) (hr2 : is4 G r2) {x3 x4 x5 : Int} {V V' : mV} {fu : Nat} {q : Nat × Int × Int} {Q : Nat → Nat → mG → mV → Option Value → Prop} (k1 : q.1 = 1 → ∀ j3 : Option Value, T X (6) 19 127 [some (.ref r0), some (.ref r1), some (.ref r2), j3, some (.int (iI q.2.1)), some (.int (iI q.2.2))] [] n z G V' Q) (h : lp (fun (s : Int × Int) V => B_X2_comes_56 G r0 r1 r2 x3 s.1 s.2 V) fu (x4, x5) V = some (V', q)) : T X (6) 19 56 [some (.ref r0), some (.ref r1), some (.ref r2), some (.int (iI x3)), some (.int (iI x4)), some (.int (iI x5))] [] n z G V Q :=
  lp_go (P0 := fun s V => T X (6) 19 56 [some (.ref r0), some (.ref r1), some (.ref r2), some (.int (iI x3)), some (.int (iI s.1)), some (.int (iI s.2))] [] n z G V Q) (PE := fun t s V => (t = 1 → ∀ j3 : Option Value, T X (6) 19 127 [some (.ref r0), some (.ref r1), some (.ref r2), j3, some (.int (iI s.1)), some (.int (iI s.2))] [] n z G V Q)) (fun s V V' q hb h0 h1 => tb_X2_comes_56 hr0 hr1 hr2  h0 (fun e => (h1 (by omega)) e) hb) fu (x4, x5) V V' q h k1

theorem tj_X2_comes_J50 {X : mX} {n z : Nat} {G : mG} {r0 r1 r2 : Nat} (hr0 : is2 G r0) (hr1 : is1 G r1) (hr2 : is4 G r2) {x3 : Int} {j4 j5 : Option Value} {V V' : mV} {v : Int} (h : F_X2_comes_J50 G r0 r1 r2 x3 V = some (V', v)) : T X (6) 19 50 [some (.ref r0), some (.ref r1), some (.ref r2), some (.int (iI x3)), j4, j5] [] n z G V (qv n z G V' v) := by
  unfold F_X2_comes_J50 at h
  refine t_s fX2_comes_50 rfl rfl rfl ?_
  refine t_l fX2_comes_51 rfl rfl rfl rfl ?_
  refine t_s fX2_comes_53 rfl rfl rfl ?_
  refine t_l fX2_comes_54 rfl rfl rfl rfl ?_
  obtain ⟨V41, u42, e43, h⟩ := bd_some h
  refine tl_X2_comes_56 hr0 hr1 hr2  (fun e44 j3 => ?_) e43
  refine t_l fX2_comes_127 rfl rfl rfl rfl ?_
  refine k9_gr fX2_comes_128 (hr1).1 kg_1_10 (s1_10r hr1) ?_
  obtain ⟨V45, v46, e47, h⟩ := bd_some h
  refine kcX3_isTold fX2_comes_131 (s1_10s hr1).1 rfl (q_X3_isTold (s1_10s hr1) e47) (by decide) ?_
  obtain ⟨g49, h⟩ := gd_some h
  refine k9_if_eq fX2_comes_134 rfl g49 (fun c48 => ?_) (fun c48 => ?_)
  · replace h := ite_t (c48) h
    refine t_ret fX2_comes_145 rX2_comes ?_
    exact qf_v h
  · replace h := ite_f (c48) h
    refine t_l fX2_comes_137 rfl rfl rfl rfl ?_
    refine t_l fX2_comes_138 rfl rfl rfl rfl ?_
    refine t_l fX2_comes_139 rfl rfl rfl rfl ?_
    refine t_l fX2_comes_140 rfl rfl rfl rfl ?_
    obtain ⟨V50, v51, e52, h⟩ := bd_some h
    refine kcX2_watchAll fX2_comes_142 (hr0).1 rfl rfl rfl (q_X2_watchAll (hr0) (hr1) (hr2) e52) (by decide) ?_
    refine t_ret fX2_comes_145 rX2_comes ?_
    exact qf_v h

theorem q_X2_comes {X : mX} {n z : Nat} {G : mG} {r0 r1 r2 : Nat} (hr0 : is2 G r0) (hr1 : is1 G r1) (hr2 : is4 G r2) {V V' : mV} {v : Int} (h : F_X2_comes G r0 r1 r2 V = some (V', v)) : Rn X (6) 19 [.ref r0, .ref r1, .ref r2] n z G V n z G V' none := by
  refine qv_toR (v := v) (L := [some (.ref r0), some (.ref r1), some (.ref r2), none, none, none]) rfl ?_
  unfold F_X2_comes at h
  refine t_l fX2_comes_0 rfl rfl rfl rfl ?_
  refine t_s fX2_comes_1 rfl rfl rfl ?_
  refine k9_gi fX2_comes_2 (hr2).1 kg_4_0 ?_
  refine t_s fX2_comes_5 rfl rfl rfl ?_
  refine k9_iadd fX2_comes_6 ?_
  refine k9_pi fX2_comes_7 (hr2).1 kp_4_0 ?_
  replace h := lt_some h
  refine t_l fX2_comes_10 rfl rfl rfl rfl ?_
  refine k9_gi fX2_comes_11 (hr2).1 kg_4_0 ?_
  refine t_s fX2_comes_14 rfl rfl rfl ?_
  obtain ⟨g2, h⟩ := gd_some h
  refine k9_irem fX2_comes_16 g2 ⟨by decide, by decide⟩ (by decide) ?_
  replace h := lt_some h
  refine t_l fX2_comes_17 rfl rfl rfl rfl ?_
  refine t_l fX2_comes_18 rfl rfl rfl rfl ?_
  refine t_l fX2_comes_19 rfl rfl rfl rfl ?_
  refine t_l fX2_comes_20 rfl rfl rfl rfl ?_
  refine k9_gi fX2_comes_21 (hr2).1 kg_4_0 ?_
  refine t_s fX2_comes_24 rfl rfl rfl ?_
  refine k9_idiv fX2_comes_26 g2 ⟨by decide, by decide⟩ (by decide) ?_
  obtain ⟨V4, v5, e6, h⟩ := bd_some h
  refine kcX2_setTime fX2_comes_27 (hr0).1 rfl (q_X2_setTime (hr0) e6) (by decide) ?_
  refine t_l fX2_comes_30 rfl rfl rfl rfl ?_
  refine k9_gr fX2_comes_31 (hr0).1 kg_2_5 (s2_5r hr0) ?_
  refine t_s fX2_comes_34 rfl rfl rfl ?_
  refine t_s fX2_comes_36 rfl rfl rfl ?_
  obtain ⟨V7, v8, e9, h⟩ := bd_some h
  refine kcX7_fill fX2_comes_37 (s2_5s hr0).1 rfl (q_X7_fill (s2_5s hr0) e9) (by decide) ?_
  refine t_l fX2_comes_40 rfl rfl rfl rfl ?_
  obtain ⟨g11, h⟩ := gd_some h
  refine k9_if_ne fX2_comes_41 rfl g11 (fun c10 => ?_) (fun c10 => ?_)
  · replace h := ite_f (c10) h
    exact tj_X2_comes_J50 hr0 hr1 hr2   h
  · replace h := ite_t (Classical.not_not.mp c10) h
    refine t_l fX2_comes_44 rfl rfl rfl rfl ?_
    refine t_l fX2_comes_45 rfl rfl rfl rfl ?_
    refine t_l fX2_comes_46 rfl rfl rfl rfl ?_
    obtain ⟨V53, v54, e55, h⟩ := bd_some h
    refine kcX2_passNight fX2_comes_47 (hr0).1 rfl rfl rfl (q_X2_passNight (hr0) (hr1) (hr2) e55) (by decide) ?_
    exact tj_X2_comes_J50 hr0 hr1 hr2   h

theorem q_X2_ableNow {X : mX} {n z : Nat} {G : mG} {r0 r1 r2 : Nat} (hr0 : is2 G r0) (hr1 : is1 G r1) (hr2 : is4 G r2) {x3 x4 x5 x6 : Int} {V V' : mV} {v : Int} (h : F_X2_ableNow G r0 r1 r2 x3 x4 x5 x6 V = some (V', v)) : Rn X (5) 26 [.ref r0, .ref r1, .ref r2, .int (iI x3), .int (iI x4), .int (iI x5), .int (iI x6)] n z G V n z G V' (some (.int (iI v))) := by
  refine qi_toR (v := v) (L := [some (.ref r0), some (.ref r1), some (.ref r2), some (.int (iI x3)), some (.int (iI x4)), some (.int (iI x5)), some (.int (iI x6))]) rfl ?_
  unfold F_X2_ableNow at h
  refine t_l fX2_ableNow_0 rfl rfl rfl rfl ?_
  refine t_l fX2_ableNow_1 rfl rfl rfl rfl ?_
  refine t_l fX2_ableNow_3 rfl rfl rfl rfl ?_
  refine k9_gi fX2_ableNow_4 (hr2).1 kg_4_0 ?_
  refine t_s fX2_ableNow_7 rfl rfl rfl ?_
  obtain ⟨g1, h⟩ := gd_some h
  refine k9_idiv fX2_ableNow_9 g1 ⟨by decide, by decide⟩ (by decide) ?_
  obtain ⟨V2, v3, e4, h⟩ := bd_some h
  refine kcX2_setTime fX2_ableNow_10 (hr0).1 rfl (q_X2_setTime (hr0) e4) (by decide) ?_
  refine t_l fX2_ableNow_13 rfl rfl rfl rfl ?_
  refine t_l fX2_ableNow_14 rfl rfl rfl rfl ?_
  refine t_l fX2_ableNow_15 rfl rfl rfl rfl ?_
  refine t_l fX2_ableNow_16 rfl rfl rfl rfl ?_
  refine t_l fX2_ableNow_18 rfl rfl rfl rfl ?_
  refine t_l fX2_ableNow_20 rfl rfl rfl rfl ?_
  refine t_l fX2_ableNow_21 rfl rfl rfl rfl ?_
  refine t_l fX2_ableNow_22 rfl rfl rfl rfl ?_
  obtain ⟨V5, v6, e7, h⟩ := bd_some h
  refine kcX4_pointsOf fX2_ableNow_24 (hr2).1 rfl (q_X4_pointsOf (hr2) e7) (by decide) ?_
  obtain ⟨V8, v9, e10, h⟩ := bd_some h
  refine kcX2_able fX2_ableNow_27 (hr0).1 rfl rfl (q_X2_able (hr0) (hr1) e10) (by decide) ?_
  obtain ⟨g11, h⟩ := gd_some h
  refine t_ret fX2_ableNow_30 (rX2_ableNow _ g11) ?_
  exact qf_i h

theorem tb_X2_ableInAll_3 {X : mX} {n z : Nat} {G : mG} {r0 r1 : Nat} (hr0 : is2 G r0) (hr1 : is1 G r1) {x2 x3 x4 x5 x6 : Int} {V V' : mV} {q : Nat × Int} {Q : Nat → Nat → mG → mV → Option Value → Prop} (h0 : q.1 = 0 → T X (5) 27 3 [some (.ref r0), some (.ref r1), some (.int (iI x2)), some (.int (iI x3)), some (.int (iI x4)), some (.int (iI x5)), some (.int (iI q.2))] [] n z G V' Q) (h1 : q.1 = 1 → T X (5) 27 68 [some (.ref r0), some (.ref r1), some (.int (iI x2)), some (.int (iI x3)), some (.int (iI x4)), some (.int (iI x5)), some (.int (iI q.2))] [] n z G V' Q) (h2 : q.1 = 2 → T X (5) 27 76 [some (.ref r0), some (.ref r1), some (.int (iI x2)), some (.int (iI x3)), some (.int (iI x4)), some (.int (iI x5)), some (.int (iI q.2))] [] n z G V' Q) (h : B_X2_ableInAll_3 G r0 r1 x2 x3 x4 x5 x6 V = some (V', q)) : T X (5) 27 3 [some (.ref r0), some (.ref r1), some (.int (iI x2)), some (.int (iI x3)), some (.int (iI x4)), some (.int (iI x5)), some (.int (iI x6))] [] n z G V Q := by
  unfold B_X2_ableInAll_3 at h
  refine t_l fX2_ableInAll_3 rfl rfl rfl rfl ?_
  refine t_l fX2_ableInAll_5 rfl rfl rfl rfl ?_
  refine k9_gr fX2_ableInAll_6 (hr1).1 kg_1_7 (s1_7r hr1) ?_
  obtain ⟨V1, v2, e3, h⟩ := bd_some h
  refine kcX7_size fX2_ableInAll_9 (s1_7s hr1).1 rfl (q_X7_size (s1_7s hr1) e3) (by decide) ?_
  obtain ⟨g5, h⟩ := gd_some h
  obtain ⟨g6, h⟩ := gd_some h
  refine k9_ic_ge fX2_ableInAll_12 rfl g5 g6 (fun c4 => ?_) (fun c4 => ?_)
  · replace h := ite_t (c4) h
    cases h
    exact h2 rfl
  · replace h := ite_f (c4) h
    refine t_l fX2_ableInAll_15 rfl rfl rfl rfl ?_
    refine k9_gr fX2_ableInAll_16 (hr1).1 kg_1_7 (s1_7r hr1) ?_
    refine t_l fX2_ableInAll_19 rfl rfl rfl rfl ?_
    obtain ⟨V7, v8, e9, h⟩ := bd_some h
    refine kcX7_get fX2_ableInAll_21 (s1_7s hr1).1 rfl (q_X7_get (s1_7s hr1) e9) (by decide) ?_
    refine t_l fX2_ableInAll_24 rfl rfl rfl rfl ?_
    obtain ⟨g11, h⟩ := gd_some h
    obtain ⟨g12, h⟩ := gd_some h
    refine k9_ic_ne fX2_ableInAll_26 rfl g11 g12 (fun c10 => ?_) (fun c10 => ?_)
    · replace h := ite_f (c10) h
      replace h := lt_some h
      refine k9_iinc fX2_ableInAll_70 rfl (Nat.le_of_ble_eq_true rfl) rfl ?_
      refine k9_goto fX2_ableInAll_73 rfl ?_
      cases h
      exact h0 rfl
    · replace h := ite_t (Classical.not_not.mp c10) h
      refine t_l fX2_ableInAll_29 rfl rfl rfl rfl ?_
      refine t_l fX2_ableInAll_30 rfl rfl rfl rfl ?_
      refine k9_gr fX2_ableInAll_31 (hr1).1 kg_1_9 (s1_9r hr1) ?_
      refine t_l fX2_ableInAll_34 rfl rfl rfl rfl ?_
      obtain ⟨V14, v15, e16, h⟩ := bd_some h
      refine kcX7_get fX2_ableInAll_36 (s1_9s hr1).1 rfl (q_X7_get (s1_9s hr1) e16) (by decide) ?_
      refine t_l fX2_ableInAll_39 rfl rfl rfl rfl ?_
      refine t_s fX2_ableInAll_40 rfl rfl rfl ?_
      obtain ⟨g17, h⟩ := gd_some h
      refine k9_idiv fX2_ableInAll_42 g17 ⟨by decide, by decide⟩ (by decide) ?_
      obtain ⟨V18, v19, e20, h⟩ := bd_some h
      refine kcX2_setTime fX2_ableInAll_43 (hr0).1 rfl (q_X2_setTime (hr0) e20) (by decide) ?_
      refine t_l fX2_ableInAll_46 rfl rfl rfl rfl ?_
      refine t_l fX2_ableInAll_47 rfl rfl rfl rfl ?_
      refine t_l fX2_ableInAll_48 rfl rfl rfl rfl ?_
      refine t_l fX2_ableInAll_49 rfl rfl rfl rfl ?_
      refine t_l fX2_ableInAll_51 rfl rfl rfl rfl ?_
      refine k9_gr fX2_ableInAll_52 (hr1).1 kg_1_8 (s1_8r hr1) ?_
      refine t_l fX2_ableInAll_55 rfl rfl rfl rfl ?_
      obtain ⟨V21, v22, e23, h⟩ := bd_some h
      refine kcX7_get fX2_ableInAll_57 (s1_8s hr1).1 rfl (q_X7_get (s1_8s hr1) e23) (by decide) ?_
      refine t_l fX2_ableInAll_60 rfl rfl rfl rfl ?_
      obtain ⟨V24, v25, e26, h⟩ := bd_some h
      refine kcX2_able fX2_ableInAll_62 (hr0).1 rfl rfl (q_X2_able (hr0) (hr1) e26) (by decide) ?_
      obtain ⟨g28, h⟩ := gd_some h
      refine k9_if_ne fX2_ableInAll_65 rfl g28 (fun c27 => ?_) (fun c27 => ?_)
      · replace h := ite_f (c27) h
        replace h := lt_some h
        refine k9_iinc fX2_ableInAll_70 rfl (Nat.le_of_ble_eq_true rfl) rfl ?_
        refine k9_goto fX2_ableInAll_73 rfl ?_
        cases h
        exact h0 rfl
      · replace h := ite_t (Classical.not_not.mp c27) h
        cases h
        exact h1 rfl

theorem tl_X2_ableInAll_3 {X : mX} {n z : Nat} {G : mG} {r0 r1 : Nat} (hr0 : is2 G r0) (hr1 : is1 G r1) {x2 x3 x4 x5 x6 : Int} {V V' : mV} {fu : Nat} {q : Nat × Int} {Q : Nat → Nat → mG → mV → Option Value → Prop} (k1 : q.1 = 1 → T X (5) 27 68 [some (.ref r0), some (.ref r1), some (.int (iI x2)), some (.int (iI x3)), some (.int (iI x4)), some (.int (iI x5)), some (.int (iI q.2))] [] n z G V' Q) (k2 : q.1 = 2 → T X (5) 27 76 [some (.ref r0), some (.ref r1), some (.int (iI x2)), some (.int (iI x3)), some (.int (iI x4)), some (.int (iI x5)), some (.int (iI q.2))] [] n z G V' Q) (h : lp (fun (s : Int) V => B_X2_ableInAll_3 G r0 r1 x2 x3 x4 x5 s V) fu x6 V = some (V', q)) : T X (5) 27 3 [some (.ref r0), some (.ref r1), some (.int (iI x2)), some (.int (iI x3)), some (.int (iI x4)), some (.int (iI x5)), some (.int (iI x6))] [] n z G V Q :=
  lp_go (P0 := fun s V => T X (5) 27 3 [some (.ref r0), some (.ref r1), some (.int (iI x2)), some (.int (iI x3)), some (.int (iI x4)), some (.int (iI x5)), some (.int (iI s))] [] n z G V Q) (PE := fun t s V => (t = 1 → T X (5) 27 68 [some (.ref r0), some (.ref r1), some (.int (iI x2)), some (.int (iI x3)), some (.int (iI x4)), some (.int (iI x5)), some (.int (iI s))] [] n z G V Q) ∧ (t = 2 → T X (5) 27 76 [some (.ref r0), some (.ref r1), some (.int (iI x2)), some (.int (iI x3)), some (.int (iI x4)), some (.int (iI x5)), some (.int (iI s))] [] n z G V Q)) (fun s V V' q hb h0 h1 => tb_X2_ableInAll_3 hr0 hr1  h0 (fun e => (h1 (by omega)).1 e) (fun e => (h1 (by omega)).2 e) hb) fu x6 V V' q h ⟨k1, k2⟩

theorem q_X2_ableInAll {X : mX} {n z : Nat} {G : mG} {r0 r1 : Nat} (hr0 : is2 G r0) (hr1 : is1 G r1) {x2 x3 x4 x5 : Int} {V V' : mV} {v : Int} (h : F_X2_ableInAll G r0 r1 x2 x3 x4 x5 V = some (V', v)) : Rn X (5) 27 [.ref r0, .ref r1, .int (iI x2), .int (iI x3), .int (iI x4), .int (iI x5)] n z G V n z G V' (some (.int (iI v))) := by
  refine qi_toR (v := v) (L := [some (.ref r0), some (.ref r1), some (.int (iI x2)), some (.int (iI x3)), some (.int (iI x4)), some (.int (iI x5)), none]) rfl ?_
  unfold F_X2_ableInAll at h
  refine t_s fX2_ableInAll_0 rfl rfl rfl ?_
  refine t_l fX2_ableInAll_1 rfl rfl rfl rfl ?_
  obtain ⟨V30, u31, e32, h⟩ := bd_some h
  refine tl_X2_ableInAll_3 hr0 hr1  (fun e33 => ?_) (fun e33 => ?_) e32
  · replace h := ite_t e33 h
    refine t_s fX2_ableInAll_68 rfl rfl rfl ?_
    refine t_ret fX2_ableInAll_69 (rX2_ableInAll _ (by decide)) ?_
    exact qf_i h
  · replace h := ite_f (by omega) h
    refine t_s fX2_ableInAll_76 rfl rfl rfl ?_
    refine t_ret fX2_ableInAll_77 (rX2_ableInAll _ (by decide)) ?_
    exact qf_i h

theorem tb_X2_countAble_6 {X : mX} {n z : Nat} {G : mG} {r0 r1 r2 : Nat} (hr0 : is2 G r0) (hr1 : is1 G r1) (hr2 : is4 G r2) {x3 x4 x5 x6 : Int} {j7 j8 : Option Value} {V V' : mV} {q : Nat × Int × Int} {Q : Nat → Nat → mG → mV → Option Value → Prop} (h0 : q.1 = 0 → ∀ j7 j8 : Option Value, T X (6) 28 6 [some (.ref r0), some (.ref r1), some (.ref r2), some (.int (iI x3)), some (.int (iI x4)), some (.int (iI q.2.1)), some (.int (iI q.2.2)), j7, j8] [] n z G V' Q) (h1 : q.1 = 1 → ∀ j7 j8 : Option Value, T X (6) 28 79 [some (.ref r0), some (.ref r1), some (.ref r2), some (.int (iI x3)), some (.int (iI x4)), some (.int (iI q.2.1)), some (.int (iI q.2.2)), j7, j8] [] n z G V' Q) (h : B_X2_countAble_6 G r0 r1 r2 x3 x4 x5 x6 V = some (V', q)) : T X (6) 28 6 [some (.ref r0), some (.ref r1), some (.ref r2), some (.int (iI x3)), some (.int (iI x4)), some (.int (iI x5)), some (.int (iI x6)), j7, j8] [] n z G V Q := by
  unfold B_X2_countAble_6 at h
  refine t_l fX2_countAble_6 rfl rfl rfl rfl ?_
  refine t_l fX2_countAble_8 rfl rfl rfl rfl ?_
  refine k9_gr fX2_countAble_9 (hr1).1 kg_1_7 (s1_7r hr1) ?_
  obtain ⟨V1, v2, e3, h⟩ := bd_some h
  refine kcX7_size fX2_countAble_12 (s1_7s hr1).1 rfl (q_X7_size (s1_7s hr1) e3) (by decide) ?_
  obtain ⟨g5, h⟩ := gd_some h
  obtain ⟨g6, h⟩ := gd_some h
  refine k9_ic_ge fX2_countAble_15 rfl g5 g6 (fun c4 => ?_) (fun c4 => ?_)
  · replace h := ite_t (c4) h
    cases h
    exact h1 rfl _ _
  · replace h := ite_f (c4) h
    refine t_l fX2_countAble_18 rfl rfl rfl rfl ?_
    refine k9_gr fX2_countAble_19 (hr1).1 kg_1_7 (s1_7r hr1) ?_
    refine t_l fX2_countAble_22 rfl rfl rfl rfl ?_
    obtain ⟨V7, v8, e9, h⟩ := bd_some h
    refine kcX7_get fX2_countAble_24 (s1_7s hr1).1 rfl (q_X7_get (s1_7s hr1) e9) (by decide) ?_
    refine t_l fX2_countAble_27 rfl rfl rfl rfl ?_
    obtain ⟨g11, h⟩ := gd_some h
    obtain ⟨g12, h⟩ := gd_some h
    refine k9_ic_ne fX2_countAble_29 rfl g11 g12 (fun c10 => ?_) (fun c10 => ?_)
    · replace h := ite_f (c10) h
      replace h := lt_some h
      refine k9_iinc fX2_countAble_73 rfl (Nat.le_of_ble_eq_true rfl) rfl ?_
      refine k9_goto fX2_countAble_76 rfl ?_
      cases h
      exact h0 rfl _ _
    · replace h := ite_t (Classical.not_not.mp c10) h
      refine t_l fX2_countAble_32 rfl rfl rfl rfl ?_
      refine k9_gr fX2_countAble_33 (hr1).1 kg_1_8 (s1_8r hr1) ?_
      refine t_l fX2_countAble_36 rfl rfl rfl rfl ?_
      obtain ⟨V14, v15, e16, h⟩ := bd_some h
      refine kcX7_get fX2_countAble_38 (s1_8s hr1).1 rfl (q_X7_get (s1_8s hr1) e16) (by decide) ?_
      refine t_l fX2_countAble_41 rfl rfl rfl rfl ?_
      refine t_l fX2_countAble_43 rfl rfl rfl rfl ?_
      refine k9_gr fX2_countAble_44 (hr1).1 kg_1_9 (s1_9r hr1) ?_
      refine t_l fX2_countAble_47 rfl rfl rfl rfl ?_
      obtain ⟨V17, v18, e19, h⟩ := bd_some h
      refine kcX7_get fX2_countAble_49 (s1_9s hr1).1 rfl (q_X7_get (s1_9s hr1) e19) (by decide) ?_
      refine t_l fX2_countAble_52 rfl rfl rfl rfl ?_
      refine t_l fX2_countAble_54 rfl rfl rfl rfl ?_
      refine t_l fX2_countAble_55 rfl rfl rfl rfl ?_
      refine t_l fX2_countAble_56 rfl rfl rfl rfl ?_
      refine t_l fX2_countAble_57 rfl rfl rfl rfl ?_
      refine t_l fX2_countAble_58 rfl rfl rfl rfl ?_
      refine t_l fX2_countAble_60 rfl rfl rfl rfl ?_
      refine t_l fX2_countAble_62 rfl rfl rfl rfl ?_
      obtain ⟨V20, v21, e22, h⟩ := bd_some h
      refine kcX2_ableNow fX2_countAble_64 (hr0).1 rfl rfl rfl (q_X2_ableNow (hr0) (hr1) (hr2) e22) (by decide) ?_
      obtain ⟨g24, h⟩ := gd_some h
      refine k9_if_eq fX2_countAble_67 rfl g24 (fun c23 => ?_) (fun c23 => ?_)
      · replace h := ite_t (c23) h
        replace h := lt_some h
        refine k9_iinc fX2_countAble_73 rfl (Nat.le_of_ble_eq_true rfl) rfl ?_
        refine k9_goto fX2_countAble_76 rfl ?_
        cases h
        exact h0 rfl _ _
      · replace h := ite_f (c23) h
        replace h := lt_some h
        refine k9_iinc fX2_countAble_70 rfl (Nat.le_of_ble_eq_true rfl) rfl ?_
        replace h := lt_some h
        refine k9_iinc fX2_countAble_73 rfl (Nat.le_of_ble_eq_true rfl) rfl ?_
        refine k9_goto fX2_countAble_76 rfl ?_
        cases h
        exact h0 rfl _ _

theorem tl_X2_countAble_6 {X : mX} {n z : Nat} {G : mG} {r0 r1 r2 : Nat} (hr0 : is2 G r0) (hr1 : is1 G r1) (hr2 : is4 G r2) {x3 x4 x5 x6 : Int} {j7 j8 : Option Value} {V V' : mV} {fu : Nat} {q : Nat × Int × Int} {Q : Nat → Nat → mG → mV → Option Value → Prop} (k1 : q.1 = 1 → ∀ j7 j8 : Option Value, T X (6) 28 79 [some (.ref r0), some (.ref r1), some (.ref r2), some (.int (iI x3)), some (.int (iI x4)), some (.int (iI q.2.1)), some (.int (iI q.2.2)), j7, j8] [] n z G V' Q) (h : lp (fun (s : Int × Int) V => B_X2_countAble_6 G r0 r1 r2 x3 x4 s.1 s.2 V) fu (x5, x6) V = some (V', q)) : T X (6) 28 6 [some (.ref r0), some (.ref r1), some (.ref r2), some (.int (iI x3)), some (.int (iI x4)), some (.int (iI x5)), some (.int (iI x6)), j7, j8] [] n z G V Q :=
  lp_go (P0 := fun s V => ∀ j7 j8 : Option Value, T X (6) 28 6 [some (.ref r0), some (.ref r1), some (.ref r2), some (.int (iI x3)), some (.int (iI x4)), some (.int (iI s.1)), some (.int (iI s.2)), j7, j8] [] n z G V Q) (PE := fun t s V => (t = 1 → ∀ j7 j8 : Option Value, T X (6) 28 79 [some (.ref r0), some (.ref r1), some (.ref r2), some (.int (iI x3)), some (.int (iI x4)), some (.int (iI s.1)), some (.int (iI s.2)), j7, j8] [] n z G V Q)) (fun s V V' q hb h0 h1 => fun _ _ => tb_X2_countAble_6 hr0 hr1 hr2  h0 (fun e => (h1 (by omega)) e) hb) fu (x5, x6) V V' q h k1 _ _

theorem q_X2_countAble {X : mX} {n z : Nat} {G : mG} {r0 r1 r2 : Nat} (hr0 : is2 G r0) (hr1 : is1 G r1) (hr2 : is4 G r2) {x3 x4 : Int} {V V' : mV} {v : Int} (h : F_X2_countAble G r0 r1 r2 x3 x4 V = some (V', v)) : Rn X (6) 28 [.ref r0, .ref r1, .ref r2, .int (iI x3), .int (iI x4)] n z G V n z G V' (some (.int (iI v))) := by
  refine qi_toR (v := v) (L := [some (.ref r0), some (.ref r1), some (.ref r2), some (.int (iI x3)), some (.int (iI x4)), none, none, none, none]) rfl ?_
  unfold F_X2_countAble at h
  refine t_s fX2_countAble_0 rfl rfl rfl ?_
  refine t_l fX2_countAble_1 rfl rfl rfl rfl ?_
  refine t_s fX2_countAble_3 rfl rfl rfl ?_
  refine t_l fX2_countAble_4 rfl rfl rfl rfl ?_
  obtain ⟨V28, u29, e30, h⟩ := bd_some h
  refine tl_X2_countAble_6 hr0 hr1 hr2  (fun e31 j7 j8 => ?_) e30
  refine t_l fX2_countAble_79 rfl rfl rfl rfl ?_
  refine t_ret fX2_countAble_81 rX2_countAble ?_
  exact qf_i h


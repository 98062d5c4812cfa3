section
variable {p : Program} {l : Launch} {e : Env} {R : Room} {s : State} {m : MethodId} {args : Array Value} {below : List Frame} {meth : Method} {c : Code} {H : Heap} {locs : List Loc} {cells slots : Nat} {Q : State → Prop} {D : va_G} {tc : Nat → ClassId} {sv : Nat → Value} {b : Nat} {X : mX} {mt : mT}
theorem a_pM303 {o : Nat} {q : Nat × Nat} (h : q ∈ a_pM.getD o []) : q.2 < 303 := by
  have h1 : ∀ l ∈ a_pM, ∀ q ∈ l, q.2 < 303 := by decide +kernel
  have ho := a_pool (P := a_pM) (by decide +kernel) h
  have hl : a_pM.getD o [] ∈ a_pM := by
    rw [List.getD_eq_getElem?_getD, List.getElem?_eq_getElem (show o < a_pM.length from ho)]
    exact List.getElem_mem _
  exact h1 _ hl q h
theorem a_pNin {o : Nat} {q : Nat × Nat} (h : q ∈ a_pN.getD o []) : q.2 < 303 ∧ ∀ m2, a_mt[q.2]? = some m2 → (a_on o, q.1, m2.1) ∈ a_ns := by
  have h1 : ((List.range 17).all (fun o => (a_pN.getD o []).all (fun q => decide (q.2 < 303) && match a_mt[q.2]? with
    | some m2 => decide ((a_on o, q.1, m2.1) ∈ a_ns)
    | none => true))) = true := by decide +kernel
  have ho := a_pool (P := a_pN) (by decide +kernel) h
  have h2 := List.all_eq_true.mp (List.all_eq_true.mp h1 o (List.mem_range.mpr ho)) q h
  simp only [Bool.and_eq_true, decide_eq_true_eq] at h2
  refine ⟨h2.1, fun m2 hm => ?_⟩
  have h3 := h2.2
  rw [hm] at h3
  simpa using h3
theorem a_clon {ci : Nat} {r : vw_C} (h : a_cl[ci]? = some r) : r.1 = a_on ci := by
  have h1 : ((List.range 11).all (fun ci => match a_cl[ci]? with
    | some r => decide (r.1 = a_on ci)
    | none => false)) = true := by decide +kernel
  have h2 := List.all_eq_true.mp h1 ci (List.mem_range.mpr (a_clk h))
  rw [h] at h2
  simpa using h2
theorem a_inone : ∀ q ∈ a_mt.zip a_sg, q.2.2 = 2 → q.1.2.2.2.1 = none := by decide +kernel
theorem a_zip {y : Nat} {q : mT} {g : Nat × Nat} (h : a_mt[y]? = some q) (hg : a_sg[y]? = some g) : (q, g) ∈ a_mt.zip a_sg := List.mem_of_getElem? (i := y) (List.getElem?_zip_eq_some.mpr ⟨h, hg⟩)
theorem a_blind {as : List Value} {n : Nat} {M : mM} : FrameBlind (a_Pc D tc sv b X as n M) := by
  intro a U g mk q
  obtain ⟨h1, h2, h3, h4⟩ := q
  exact ⟨h1, h2, va_K.moved (u := U) (U := U.calling g mk a) (Vm.Alike.refl U.vm) h3, a_out.same (s := U) (U := U.calling g mk a) rfl h4⟩
theorem a_atU (C0 : a_cx p s m args meth c D tc sv b X mt) (hS : va_S (fun q => b ≤ q) s.heap H locs) {n : Nat} {M : mM} (hw : a_wd D tc sv b n M H) {as : List Value} (U : State) (hU : U.heap = H) (hW : s.WarmedH U.vm) : a_Pc D tc sv b X as n M (as.map (a_cv sv b)).toArray U := by
  obtain ⟨hx, hb, hml, hown, hnm, hts, hK, hout, hbs, hon, hsv⟩ := C0
  refine ⟨rfl, by rw [hU]; exact hw, va_K.moved hW.alike hK, a_out.moved hW (fun a h1 h2 => ?_) hbs hout⟩
  rw [hU]
  exact hS.2.1 a h1 (by simpa using h2)
theorem a_mx37 : ∀ q ∈ a_mt, q.2.2.1 ≤ 37 := by decide +kernel
/-- a call of an object's method over up to twelve words that wait on the pile -/
theorem a_runV {y : MethodName} {bytes cc : ByteArray} {maxL nL mc ms n index : Nat} {ret : Option FieldType} {ws : List Cond} {rm : Room} {Pc : Array Value → State → Prop} {Qc : Array Value → State → Outcome → State → Prop} {free : Addr → Prop} {Ts : List Cond} {own C : String} {a : Addr} {As rest : List Value} {g : JFrame}
    (S : CallFix p m c cc nL s args Ts own) (hM : Met l y ws rm Pc Qc mc ms free) (cw : CallW R s args own C index y bytes maxL ret ws rm mc ms n) (h12 : 12 + (maxL + 11) + rm.locals ≤ R.locals) (hp : PreV s H C a Pc As)
    (hg : g.method = m) (hn : As.length = n) (hsize : g.locals.size = nL) (hstack : g.stack = As.reverse ++ .ref a :: rest) (hW : 2 * g.monitorRoom + (rest.map fun v => v.category).sum ≤ 12) (hdg : decode cc g.pc = .ok (.invokevirtual index, 3)) (hf : cells + mc ≤ R.cells ∧ slots + ms ≤ R.slots) :
    va_Run p l e R s m args below meth c H locs cells slots mc ms g rest (Qc (Value.ref a :: As).toArray) free := by
  obtain ⟨⟨w1, w2, w3, -, w5, w6, w7, w8, w9, w10, w11⟩, i1, i2⟩ := cw
  have hK : Back l R p e below s args y 3 12 (PreOf R mc ms Pc) (PostOf Qc mc ms free) :=
    back_of (bytes := bytes) (maxL := maxL) (ret := ret) hM hp.1 w1 w2 w3 h12 w5 w6 (fun a' U hu => word_at hu (Or.inl (by first | rfl | simp [Cond.onTables, Cond.keeps, Cond.steady])) w8)
  obtain ⟨x1, x2, x3, x4, -⟩ := S
  obtain ⟨-, ⟨cell, y1, y2, y3⟩, y4⟩ := hp
  intro T hT hX
  obtain ⟨v, vm₁, ⟨U', l2, c2, s2⟩, z1, z2, ⟨g', mk, t, L, e1, e2, hq, h1, hL, h2, h3⟩, st⟩ := callV hX x1 (C := C) (bytes := bytes) (maxL := maxL) (ret := ret) x4 w11 i1 i2 w7 w9 hK (by rw [hT]; exact y1) y2 y3 hg (hsize.trans x3.symm) (argsL := As) (rest := rest) (fun sig h => hn.trans (w10 sig h)) hstack hW (by rw [x2]; exact hdg)
    (fun vm₁ hu => ⟨hf.1, hf.2, y4 (T.setVm vm₁) hT hu⟩)
  dsimp only [Pt.U, Pt.locs, Pt.cells, Pt.slots] at z2 e1 e2 h1 h2 h3 st
  subst h1; subst h2; subst h3
  exact ⟨v, (T.setVm vm₁).calling g' mk (Value.ref a :: As).toArray, t, U', L, hT, z2, hL, e1, e2, hq, st⟩
set_option maxHeartbeats 4000000 in
set_option maxRecDepth 100000 in
theorem a_Scl (C0 : a_cx p s m args meth c D tc sv b X mt) (hS : va_S (fun q => b ≤ q) s.heap H locs) {n : Nat} {M : mM} (hw : a_wd D tc sv b n M H) {i i' : mI} {len nx pc : Nat} {st : List Value} {cl : Nat × List Value × List Value} {ls : Array Slot} (hsz : ls.size = c.maxLocals) (hd : decode mt.2.1 pc = .ok (i, len)) (hr : a_rsv mt pc i len = some (i', nx)) (h : a_call i' st M = some cl) {m2 : mT} (hm2 : a_mt[cl.1]? = some m2) {d mc ms n1 : Nat} {M1 : mM} {v : Option Value} (hM : Met l m2.1 (a_ws m2) (a_rm d mc ms) (a_Pc D tc sv b X cl.2.1 n M) (a_Qc D tc sv b v n1 M1) mc ms (fun q => b ≤ q)) (hR : d + 2 ≤ R.frames ∧ 60 * (d + 2) ≤ R.locals) (hf : cells + mc ≤ R.cells ∧ slots + ms ≤ R.slots) :
    nx = pc + 3 ∧ va_Run p l e R s m args below meth c H locs cells slots mc ms (F0 m pc ls (st.map (a_cv sv b))) (cl.2.2.map (a_cv sv b)) (a_Qc D tc sv b v n1 M1 (cl.2.1.map (a_cv sv b)).toArray) (fun q => b ≤ q) := by
  have C1 := C0
  obtain ⟨hx, hb, hml, hown, hnm, hts, hK, hout, hbs, hon, hsv⟩ := C0
  have hfix : CallFix p m c mt.2.1 mt.2.2.1 s args a_wl mt.1.cls := ⟨hx, hb, hml, hown, hts⟩
  have hsz2 : (F0 m pc ls (st.map (a_cv sv b))).locals.size = mt.2.2.1 := hsz.trans hml
  have hpoly := a_poly m2 (List.mem_of_getElem? hm2)
  have hmx := a_mx41 m2 (List.mem_of_getElem? hm2)
  have hR2 : (a_rm d mc ms).frames + 1 ≤ R.frames ∧ 8 + (m2.2.2.1 + 11) + (a_rm d mc ms).locals ≤ R.locals := by
    show d + 1 + 1 ≤ R.frames ∧ 8 + (m2.2.2.1 + 11) + 60 * (d + 1) ≤ R.locals
    omega
  have hroom : ∀ r : List Value, a_rst r = true → 2 * (F0 m pc ls (st.map (a_cv sv b))).monitorRoom + ((r.map (a_cv sv b)).map fun v => v.category).sum ≤ 8 := by
    intro r h1
    refine lv_room (m := m) (pc := pc) (ls := ls) (rest := st.map (a_cv sv b)) ?_
    rw [a_cat hsv]
    simpa [a_rst] using h1
  have hroom12 : ∀ r : List Value, a_r12 r = true → 2 * (F0 m pc ls (st.map (a_cv sv b))).monitorRoom + ((r.map (a_cv sv b)).map fun v => v.category).sum ≤ 12 := by
    intro r h1
    rw [a_cat hsv]
    show 2 * 0 + _ ≤ 12
    have h2 : (r.map fun v => v.category).sum ≤ 12 := by simpa [a_r12] using h1
    omega
  have hmx37 := a_mx37 m2 (List.mem_of_getElem? hm2)
  cases i with
  | invokestatic k =>
    simp only [a_rsv] at hr
    split at hr
    · rename_i y hy
      obtain ⟨rfl, rfl, rfl⟩ := a_c1v hr
      refine ⟨rfl, ?_⟩
      simp only [a_call] at h
      split at h
      · rename_i na hsg
        split at h
        · rename_i hc
          cases h
          have h303 := a_pM303 (a_lkv hy)
          have hyw := a_ywl hm2 hsg h303
          have hkw := a_mtl hm2 h303
          have hna := a_nargs _ (a_zip hm2 hsg)
          have hlk : (Cond.methodLink mt.1.cls k m2.1).before args s = true := by
            have h1 := hts _ (a_inM (a_lkv hy))
            unfold a_ml at h1
            rw [hm2, a_onm _ hon] at h1
            exact h1
          refine va_runS (As := ((st.take na).reverse).map (a_cv sv b)) hfix hM ⟨callB_of na hts (a_good hkw) (ws' := a_wl) rfl rfl rfl (hts _ (hyw _ (by simp [a_mw]))) hlk ⟨hpoly.1, hpoly.2, hna⟩ hR2, hts _ (hyw _ (by simp [a_mw]))⟩ ⟨a_blind, fun U hU hW => a_atU C1 hS hw U hU hW⟩ rfl ?_ hsz2 ?_ (hroom _ hc.2) hd hf
          · rw [List.length_map, List.length_reverse, List.length_take]; omega
          · show st.map (a_cv sv b) = _
            rw [← List.map_reverse, List.reverse_reverse, ← List.map_append, List.take_append_drop]
        · exact (a_no h).elim
      · exact (a_no h).elim
    · exact (a_no hr).elim
  | invokevirtual k =>
    simp only [a_rsv] at hr
    split at hr
    · rename_i y hy
      obtain ⟨rfl, rfl, rfl⟩ := a_c1v hr
      refine ⟨rfl, ?_⟩
      simp only [a_call] at h
      split at h
      · rename_i na mq hsg hmq
        have h303 := a_pM303 (a_lkv hy)
        split at h
        · rename_i a r hst
          split at h
          · rename_i c' fs hMa
            split at h
            · rename_i hc
              cases h
              obtain rfl : mq = m2 := Option.some.inj (hmq.symm.trans hm2)
              have hyw := a_ywl hm2 hsg h303
              have hkw := a_mtl hm2 h303
              have hna := a_nargs _ (a_zip hm2 hsg)
              have hlk : (Cond.methodLink mt.1.cls k mq.1).before args s = true := by
                have h1 := hts _ (a_inM (a_lkv hy))
                unfold a_ml at h1
                rw [hm2, a_onm _ hon] at h1
                exact h1
              obtain ⟨hc1, hc2, hc3⟩ := hc
              obtain ⟨hlt, hat⟩ := hw.obj hMa hc2
              have hle : na < st.length := by
                by_cases hq : na < st.length
                · exact hq
                · rw [List.drop_eq_nil_of_le (by omega)] at hst; cases hst
              have hst2 : st = st.take na ++ .ref a :: r := by rw [← hst, List.take_append_drop]
              have hrc : ∃ cellB : Cell, H[b + a]? = some cellB ∧ cellB.vm.isStatics = false ∧ s.vm.findClass mq.1.cls = some cellB.cls := by
                obtain ⟨r0, hr0⟩ : ∃ r0, a_cl[c']? = some r0 := ⟨_, List.getElem?_eq_getElem (show c' < a_cl.length from hc2)⟩
                have h1 := va_recv hK (a_P1 hat) hr0 (q0 := 0) rfl
                rw [a_clon hr0, hc1, a_onm _ (List.mem_of_getElem? hm2)] at h1
                exact h1
              refine a_runV (As := ((st.take na).reverse).map (a_cv sv b)) (C := mq.1.cls) hfix hM ⟨callB_of na hts (a_good hkw) (ws' := a_wl) rfl rfl rfl (hts _ (hyw _ (by simp [a_mw]))) hlk ⟨hpoly.1, hpoly.2, hna⟩ hR2, hts _ (hyw _ (by simp [a_mw])), hts _ (hyw _ (by simp [a_mw]))⟩ (by show 12 + (mq.2.2.1 + 11) + 60 * (d + 1) ≤ R.locals; omega) ⟨a_blind, hrc, fun U hU hW => a_atU C1 hS hw (as := .ref a :: (st.take na).reverse) U hU hW⟩ rfl ?_ hsz2 ?_ (hroom12 _ hc3) hd hf
              · rw [List.length_map, List.length_reverse, List.length_take]; omega
              · show st.map (a_cv sv b) = _
                rw [← List.map_reverse, List.reverse_reverse]
                conv => lhs; rw [hst2]
                rw [List.map_append]
                rfl
            · exact (a_no h).elim
          · exact (a_no h).elim
        · rename_i r hst
          split at h
          · rename_i hc
            cases h
            obtain rfl : mq = m2 := Option.some.inj (hmq.symm.trans hm2)
            have hyw := a_ywl hm2 hsg h303
            have hkw := a_mtl hm2 h303
            have hna := a_nargs _ (a_zip hm2 hsg)
            have hlk : (Cond.methodLink mt.1.cls k mq.1).before args s = true := by
              have h1 := hts _ (a_inM (a_lkv hy))
              unfold a_ml at h1
              rw [hm2, a_onm _ hon] at h1
              exact h1
            obtain ⟨hc1, hc3⟩ := hc
            have hle : na < st.length := by
              by_cases hq : na < st.length
              · exact hq
              · rw [List.drop_eq_nil_of_le (by omega)] at hst; cases hst
            have hst2 : st = st.take na ++ .retAddr 1 :: r := by rw [← hst, List.take_append_drop]
            have hcl : RJ0 = mq.1.cls := by rw [← a_onm _ (List.mem_of_getElem? hm2), hc1]; rfl
            obtain ⟨-, ⟨adK, adV, hE, ⟨e1, e2, e3, e4⟩, hr1, hr2⟩, -⟩ := hout
            have hrc := vk_recv hE (i := 0) (by decide) hS
            have hst3 : (Value.ref (adK 0) :: ((st.take na).reverse).map (a_cv sv b)) = (Value.retAddr 1 :: (st.take na).reverse).map (a_cv sv b) := by
              rw [List.map_cons]; show _ = sv 1 :: _; rw [e1]
            rw [← hst3]
            refine va_runV (b := adK 0) (As := ((st.take na).reverse).map (a_cv sv b)) (C := mq.1.cls) hfix hM ⟨callB_of na hts (a_good hkw) (ws' := a_wl) rfl rfl rfl (hts _ (hyw _ (by simp [a_mw]))) hlk ⟨hpoly.1, hpoly.2, hna⟩ hR2, hts _ (hyw _ (by simp [a_mw])), hts _ (hyw _ (by simp [a_mw]))⟩ ⟨a_blind, by rw [← hcl]; exact hrc, fun U hU hW => by rw [hst3]; exact a_atU C1 hS hw (as := .retAddr 1 :: (st.take na).reverse) U hU hW⟩ rfl ?_ hsz2 ?_ (hroom _ hc3) hd hf
            · rw [List.length_map, List.length_reverse, List.length_take]; omega
            · show st.map (a_cv sv b) = _
              rw [← List.map_reverse, List.reverse_reverse]
              conv => lhs; rw [hst2]
              rw [List.map_append, List.map_cons]
              show _ ++ sv 1 :: _ = _
              rw [e1]
          · exact (a_no h).elim
        · rename_i r hst
          split at h
          · rename_i hc
            cases h
            obtain rfl : mq = m2 := Option.some.inj (hmq.symm.trans hm2)
            have hyw := a_ywl hm2 hsg h303
            have hkw := a_mtl hm2 h303
            have hna := a_nargs _ (a_zip hm2 hsg)
            have hlk : (Cond.methodLink mt.1.cls k mq.1).before args s = true := by
              have h1 := hts _ (a_inM (a_lkv hy))
              unfold a_ml at h1
              rw [hm2, a_onm _ hon] at h1
              exact h1
            obtain ⟨hc1, hc3⟩ := hc
            have hle : na < st.length := by
              by_cases hq : na < st.length
              · exact hq
              · rw [List.drop_eq_nil_of_le (by omega)] at hst; cases hst
            have hst2 : st = st.take na ++ .retAddr 2 :: r := by rw [← hst, List.take_append_drop]
            have hcl : RJ0 = mq.1.cls := by rw [← a_onm _ (List.mem_of_getElem? hm2), hc1]; rfl
            obtain ⟨-, ⟨adK, adV, hE, ⟨e1, e2, e3, e4⟩, hr1, hr2⟩, -⟩ := hout
            have hrc := vk_recv hE (i := 1) (by decide) hS
            have hst3 : (Value.ref (adK 1) :: ((st.take na).reverse).map (a_cv sv b)) = (Value.retAddr 2 :: (st.take na).reverse).map (a_cv sv b) := by
              rw [List.map_cons]; show _ = sv 2 :: _; rw [e2]
            rw [← hst3]
            refine va_runV (b := adK 1) (As := ((st.take na).reverse).map (a_cv sv b)) (C := mq.1.cls) hfix hM ⟨callB_of na hts (a_good hkw) (ws' := a_wl) rfl rfl rfl (hts _ (hyw _ (by simp [a_mw]))) hlk ⟨hpoly.1, hpoly.2, hna⟩ hR2, hts _ (hyw _ (by simp [a_mw])), hts _ (hyw _ (by simp [a_mw]))⟩ ⟨a_blind, by rw [← hcl]; exact hrc, fun U hU hW => by rw [hst3]; exact a_atU C1 hS hw (as := .retAddr 2 :: (st.take na).reverse) U hU hW⟩ rfl ?_ hsz2 ?_ (hroom _ hc3) hd hf
            · rw [List.length_map, List.length_reverse, List.length_take]; omega
            · show st.map (a_cv sv b) = _
              rw [← List.map_reverse, List.reverse_reverse]
              conv => lhs; rw [hst2]
              rw [List.map_append, List.map_cons]
              show _ ++ sv 2 :: _ = _
              rw [e2]
          · exact (a_no h).elim
        · exact (a_no h).elim
      · exact (a_no h).elim
    · exact (a_no hr).elim
  | invokespecial k =>
    have key : ∀ {y na : Nat} {a : Nat} {r : List Value}, y < 303 → a_sg[y]? = some (na, 2) → a_mt[y]? = some m2 → st.drop na = .ref a :: r → a_rst r = true → cl = (y, .ref a :: (st.take na).reverse, r) → ((Cond.methodLink mt.1.cls k m2.1).before args s = true ∨ va_Nw (.methodLinkNest mt.1.cls k m2.1 RX9) s) → decode mt.2.1 pc = .ok (.invokespecial k, 3) → va_Run p l e R s m args below meth c H locs cells slots mc ms (F0 m pc ls (st.map (a_cv sv b))) (cl.2.2.map (a_cv sv b)) (a_Qc D tc sv b v n1 M1 (cl.2.1.map (a_cv sv b)).toArray) (fun q => b ≤ q) := by
      intro y na a r h303 hsg hm3 hst hc3 hcl hlk hd3
      subst hcl
      have hyw := a_ywl hm3 hsg h303
      have hkw := a_mtl hm3 h303
      have hna := a_nargs _ (a_zip hm3 hsg)
      have hin := a_init _ (a_zip hm3 hsg) rfl
      have hno := a_inone _ (a_zip hm3 hsg) rfl
      have hle : na < st.length := by
        by_cases hq : na < st.length
        · exact hq
        · rw [List.drop_eq_nil_of_le (by omega)] at hst; cases hst
      have hst2 : st = st.take na ++ .ref a :: r := by rw [← hst, List.take_append_drop]
      have hlen : (((st.take na).reverse).map (a_cv sv b)).length = na := by
        rw [List.length_map, List.length_reverse, List.length_take]; omega
      have hstk : (F0 m pc ls (st.map (a_cv sv b))).stack = (((st.take na).reverse).map (a_cv sv b)).reverse ++ .ref (b + a) :: r.map (a_cv sv b) := by
        show st.map (a_cv sv b) = _
        rw [← List.map_reverse, List.reverse_reverse]
        conv => lhs; rw [hst2]
        rw [List.map_append]
        rfl
      obtain ⟨y2, cb, nl, rt, ow⟩ := m2
      obtain rfl : rt = none := hno
      rcases hlk with hlk | hlk
      · exact va_runI (b := b + a) (As := ((st.take na).reverse).map (a_cv sv b)) hfix hM ⟨callB_of na hts (a_good hkw) (ws' := a_wl) rfl rfl rfl (hts _ (hyw _ (by simp [a_mw]))) hlk ⟨hpoly.1, hpoly.2, hna⟩ hR2, hin, hts _ (hyw _ (by simp [a_mw]))⟩ ⟨a_blind, fun U hU hW => a_atU C1 hS hw (as := .ref a :: (st.take na).reverse) U hU hW⟩ rfl hlen hsz2 hstk (hroom _ hc3) hd3 hf
      · exact va_runIN (host := RX9) (b := b + a) (As := ((st.take na).reverse).map (a_cv sv b)) hfix hM ⟨va_cnB na hts (a_good hkw) (ws' := a_wl) rfl rfl rfl hlk (hts _ (hyw _ (by simp [a_mw]))) ⟨hpoly.1, hpoly.2, hna⟩ hR2, hin, hts _ (hyw _ (by simp [a_mw]))⟩ ⟨a_blind, fun U hU hW => a_atU C1 hS hw (as := .ref a :: (st.take na).reverse) U hU hW⟩ rfl hlen hsz2 hstk (hroom _ hc3) hd3 hf
    simp only [a_rsv] at hr
    split at hr
    · obtain ⟨rfl, rfl, rfl⟩ := a_c1v hr; exact (a_no h).elim
    · split at hr
      · rename_i y hy
        obtain ⟨rfl, rfl, rfl⟩ := a_c1v hr
        refine ⟨rfl, ?_⟩
        simp only [a_call] at h
        split at h
        · rename_i na hsg
          split at h
          · rename_i a r hst
            split at h
            · rename_i hc
              cases h
              refine key (a_pM303 (a_lkv hy)) hsg hm2 hst hc rfl (Or.inl ?_) hd
              have h1 := hts _ (a_inM (a_lkv hy))
              unfold a_ml at h1
              rw [hm2, a_onm _ hon] at h1
              exact h1
            · exact (a_no h).elim
          · exact (a_no h).elim
        · exact (a_no h).elim
      · split at hr
        · rename_i y hy
          obtain ⟨rfl, rfl, rfl⟩ := a_c1v hr
          refine ⟨rfl, ?_⟩
          simp only [a_call] at h
          split at h
          · rename_i na hsg
            split at h
            · rename_i a r hst
              split at h
              · rename_i hc
                cases h
                obtain ⟨h303, hns⟩ := a_pNin (a_lkv hy)
                refine key h303 hsg hm2 hst hc rfl (Or.inr ?_) hd
                obtain ⟨-, -, -, -, hn, -⟩ := hout
                have h1 := hn _ (hns _ hm2)
                rw [a_onm _ hon] at h1
                exact h1
              · exact (a_no h).elim
            · exact (a_no h).elim
          · exact (a_no h).elim
        · exact (a_no hr).elim
  | _ =>
    first
      | exact (a_no hr).elim
      | (obtain ⟨rfl, rfl, rfl⟩ := a_c1v hr; exact (a_no h).elim)
      | (simp only [a_rsv, a_tg] at hr; (repeat' split at hr) <;> first | exact (a_no hr).elim | (cases hr; exact (a_no h).elim) | (obtain ⟨rfl, rfl, rfl⟩ := a_c1v hr; exact (a_no h).elim))
end

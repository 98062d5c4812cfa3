section
variable {p : Program} {l : Launch} {e : Env} {R : Room} {s : State} {m : MethodId} {args : Array Value} {below : List Frame} {meth : Method} {c : Code} {H : Heap} {locs : List Loc} {cells slots : Nat} {Q : State → Prop} {D : va_G} {tc : Nat → ClassId} {sv : Nat → Value} {b : Nat} {X : mX} {mt : mT}
theorem a_cv1 {v : Value} (hsv : a_svk sv) (h : a_one v = true) : (a_cv sv b v).category = 1 := by
  cases v with
  | retAddr k => rcases hsv k with q | ⟨a, q⟩ <;> simp [a_cv, q, Value.category]
  | int _ => rfl
  | ref _ => rfl
  | null => rfl
  | long _ => cases h
  | float _ => cases h
  | double _ => cases h
theorem a_cat (hsv : a_svk sv) (st : List Value) : ((st.map (a_cv sv b)).map fun v => v.category).sum = (st.map fun v => v.category).sum := by
  induction st with
  | nil => rfl
  | cons v t ih =>
    have h : (a_cv sv b v).category = v.category := by
      cases v with
      | retAddr k => rcases hsv k with q | ⟨a, q⟩ <;> simp [a_cv, q, Value.category]
      | _ => rfl
    simp only [List.map_cons, List.sum_cons, ih, h]
set_option maxHeartbeats 4000000 in
set_option maxRecDepth 100000 in
theorem a_Sstk (C0 : a_cx p s m args meth c D tc sv b X mt) (hS : va_S (fun q => b ≤ q) s.heap H locs) {i i' : mI} {len nx pc : Nat} {st st' : List Value} {ls : Array Slot} (hsz : ls.size = c.maxLocals) (hR : 60 ≤ R.locals ∧ 1 ≤ R.frames) (hd : decode mt.2.1 pc = .ok (i, len)) (hr : a_rsv mt pc i len = some (i', nx)) (h : a_stk i' st = some st') (k : W p l e R s m args below meth c H locs cells slots Q (F0 m nx ls (st'.map (a_cv sv b)))) : W p l e R s m args below meth c H locs cells slots Q (F0 m pc ls (st.map (a_cv sv b))) := by
  obtain ⟨hx, hb, hml, hown, hnm, hts, hK, hout, hbs, hon, hsv⟩ := C0
  cases i with
  | iconst v =>
    obtain ⟨rfl, rfl, rfl⟩ := a_c1v hr
    cases h
    exact lv_iconst hx hb hd (by rw [Int32.ofInt_toInt]) k
  | bipush v =>
    obtain ⟨rfl, rfl, rfl⟩ := a_c1v hr
    cases h
    exact lv_bipush hx hb hd (by rw [Int32.ofInt_toInt]) k
  | sipush v =>
    obtain ⟨rfl, rfl, rfl⟩ := a_c1v hr
    cases h
    exact lv_sipush hx hb hd (by rw [Int32.ofInt_toInt]) k
  | lconst v =>
    obtain ⟨rfl, rfl, rfl⟩ := a_c1v hr
    cases h
    exact lv_lconst hx hb hd (by rw [Int64.ofInt_toInt]) k
  | aconst_null =>
    obtain ⟨rfl, rfl, rfl⟩ := a_c1v hr
    cases h
    exact lv_null hx hb hd k
  | iadd =>
    obtain ⟨rfl, rfl, rfl⟩ := a_c1v hr
    obtain ⟨x, y, r, v, rfl, hv, rfl⟩ := a_b2v h
    cases hv
    exact lv_iadd hx hb hd k
  | isub =>
    obtain ⟨rfl, rfl, rfl⟩ := a_c1v hr
    obtain ⟨x, y, r, v, rfl, hv, rfl⟩ := a_b2v h
    cases hv
    exact lv_isub hx hb hd k
  | imul =>
    obtain ⟨rfl, rfl, rfl⟩ := a_c1v hr
    obtain ⟨x, y, r, v, rfl, hv, rfl⟩ := a_b2v h
    cases hv
    exact lv_imul hx hb hd k
  | idiv =>
    obtain ⟨rfl, rfl, rfl⟩ := a_c1v hr
    obtain ⟨x, y, r, v, rfl, hv, rfl⟩ := a_b2v h
    split at hv
    · exact (a_no hv).elim
    · rename_i hne
      cases hv
      exact lv_idiv hx hb hd hne k
  | irem =>
    obtain ⟨rfl, rfl, rfl⟩ := a_c1v hr
    obtain ⟨x, y, r, v, rfl, hv, rfl⟩ := a_b2v h
    split at hv
    · exact (a_no hv).elim
    · rename_i hne
      cases hv
      exact lv_irem hx hb hd hne k
  | iand =>
    obtain ⟨rfl, rfl, rfl⟩ := a_c1v hr
    obtain ⟨x, y, r, v, rfl, hv, rfl⟩ := a_b2v h
    cases hv
    exact lv_iand hx hb hd k
  | ior =>
    obtain ⟨rfl, rfl, rfl⟩ := a_c1v hr
    obtain ⟨x, y, r, v, rfl, hv, rfl⟩ := a_b2v h
    cases hv
    exact lv_ior hx hb hd k
  | ixor =>
    obtain ⟨rfl, rfl, rfl⟩ := a_c1v hr
    obtain ⟨x, y, r, v, rfl, hv, rfl⟩ := a_b2v h
    cases hv
    exact lv_ixor hx hb hd k
  | ishl =>
    obtain ⟨rfl, rfl, rfl⟩ := a_c1v hr
    obtain ⟨x, y, r, v, rfl, hv, rfl⟩ := a_b2v h
    cases hv
    exact lv_ishl hx hb hd k
  | ishr =>
    obtain ⟨rfl, rfl, rfl⟩ := a_c1v hr
    obtain ⟨x, y, r, v, rfl, hv, rfl⟩ := a_b2v h
    cases hv
    exact lv_ishr hx hb hd k
  | iushr =>
    obtain ⟨rfl, rfl, rfl⟩ := a_c1v hr
    obtain ⟨x, y, r, v, rfl, hv, rfl⟩ := a_b2v h
    cases hv
    exact lv_iushr hx hb hd rfl k
  | ladd =>
    obtain ⟨rfl, rfl, rfl⟩ := a_c1v hr
    obtain ⟨x, y, r, v, rfl, hv, rfl⟩ := a_j2v h
    cases hv
    exact lv_ladd hx hb hd k
  | lsub =>
    obtain ⟨rfl, rfl, rfl⟩ := a_c1v hr
    obtain ⟨x, y, r, v, rfl, hv, rfl⟩ := a_j2v h
    cases hv
    exact lv_lsub hx hb hd k
  | lmul =>
    obtain ⟨rfl, rfl, rfl⟩ := a_c1v hr
    obtain ⟨x, y, r, v, rfl, hv, rfl⟩ := a_j2v h
    cases hv
    exact lv_lmul hx hb hd k
  | ldiv =>
    obtain ⟨rfl, rfl, rfl⟩ := a_c1v hr
    obtain ⟨x, y, r, v, rfl, hv, rfl⟩ := a_j2v h
    split at hv
    · exact (a_no hv).elim
    · rename_i hne
      cases hv
      exact lv_ldiv hx hb hd hne k
  | lrem =>
    obtain ⟨rfl, rfl, rfl⟩ := a_c1v hr
    obtain ⟨x, y, r, v, rfl, hv, rfl⟩ := a_j2v h
    split at hv
    · exact (a_no hv).elim
    · rename_i hne
      cases hv
      exact lv_lrem hx hb hd hne k
  | land =>
    obtain ⟨rfl, rfl, rfl⟩ := a_c1v hr
    obtain ⟨x, y, r, v, rfl, hv, rfl⟩ := a_j2v h
    cases hv
    exact lv_land hx hb hd k
  | lcmp =>
    obtain ⟨rfl, rfl, rfl⟩ := a_c1v hr
    obtain ⟨x, y, r, v, rfl, hv, rfl⟩ := a_j2v h
    cases hv
    exact W.lcmp hx hb hd k
  | lshr =>
    obtain ⟨rfl, rfl, rfl⟩ := a_c1v hr
    simp only [a_stk] at h
    split at h
    · cases h
      exact lv_lshr hx hb hd rfl k
    · exact (a_no h).elim
  | ineg =>
    obtain ⟨rfl, rfl, rfl⟩ := a_c1v hr
    obtain ⟨x, r, v, rfl, hv, rfl⟩ := a_u1v h
    split at hv
    · cases hv
      exact lv_ineg hx hb hd k
    · exact (a_no hv).elim
  | i2l =>
    obtain ⟨rfl, rfl, rfl⟩ := a_c1v hr
    obtain ⟨x, r, v, rfl, hv, rfl⟩ := a_u1v h
    split at hv
    · cases hv
      exact lv_i2l hx hb hd rfl k
    · exact (a_no hv).elim
  | l2i =>
    obtain ⟨rfl, rfl, rfl⟩ := a_c1v hr
    obtain ⟨x, r, v, rfl, hv, rfl⟩ := a_u1v h
    split at hv
    · cases hv
      exact lv_l2i hx hb hd rfl k
    · exact (a_no hv).elim
  | i2c =>
    obtain ⟨rfl, rfl, rfl⟩ := a_c1v hr
    obtain ⟨x, r, v, rfl, hv, rfl⟩ := a_u1v h
    split at hv
    · cases hv
      exact lv_i2c hx hb hd rfl k
    · exact (a_no hv).elim
  | dup =>
    obtain ⟨rfl, rfl, rfl⟩ := a_c1v hr
    simp only [a_stk] at h
    split at h
    · split at h
      · rename_i h1
        cases h
        exact lv_dup hx hb hd (a_cv1 hsv h1) k
      · exact (a_no h).elim
    · exact (a_no h).elim
  | pop =>
    obtain ⟨rfl, rfl, rfl⟩ := a_c1v hr
    simp only [a_stk] at h
    split at h
    · split at h
      · rename_i h1
        cases h
        exact lv_pop hx hb hd (a_cv1 hsv h1) k
      · exact (a_no h).elim
    · exact (a_no h).elim
  | dup2 =>
    obtain ⟨rfl, rfl, rfl⟩ := a_c1v hr
    simp only [a_stk] at h
    split at h
    · cases h
      exact lv_dup2_2 hx hb hd rfl k
    · split at h
      · rename_i h1
        cases h
        exact lv_dup2_11 hx hb hd (a_cv1 hsv h1.1) (a_cv1 hsv h1.2) k
      · exact (a_no h).elim
    · exact (a_no h).elim
  | ldc n =>
    simp only [a_rsv] at hr
    split at hr
    · rename_i v hv
      obtain ⟨rfl, rfl, rfl⟩ := a_c1v hr
      cases h
      refine lv_ldc hx hb (own := mt.1.cls) (v := Int32.ofInt v) hown (hts _ ?_) hd ?_
      · rw [← a_onm _ hon]; exact a_inI (a_lkv hv)
      · simpa only [List.map_cons, a_cv, Int32.ofInt_toInt] using k
    · split at hr
      · rename_i ho
        obtain ⟨rfl, rfl, rfl⟩ := a_c1v hr
        cases h
        obtain ⟨-, ⟨adK, adV, hE, ⟨e1, e2, e3, e4⟩, hr1, hr2⟩, -⟩ := hout
        obtain ⟨ho1, rfl⟩ := ho
        have hcl : RX6 = mt.1.cls := by rw [← a_onm _ hon, ho1]; rfl
        refine va_ldcS hx hb (own := RX6) (by rw [hcl]; exact hown) hr1 hd ?_
        rw [← e1]; exact k
      · split at hr
        · rename_i ho
          obtain ⟨rfl, rfl, rfl⟩ := a_c1v hr
          cases h
          obtain ⟨-, ⟨adK, adV, hE, ⟨e1, e2, e3, e4⟩, hr1, hr2⟩, -⟩ := hout
          obtain ⟨ho1, rfl⟩ := ho
          have hcl : RX6 = mt.1.cls := by rw [← a_onm _ hon, ho1]; rfl
          refine va_ldcS hx hb (own := RX6) (by rw [hcl]; exact hown) hr2 hd ?_
          rw [← e2]; exact k
        · exact (a_no hr).elim
  | ldc_w n =>
    simp only [a_rsv] at hr
    split at hr
    · rename_i v hv
      obtain ⟨rfl, rfl, rfl⟩ := a_c1v hr
      cases h
      refine lv_ldcw hx hb (own := mt.1.cls) (v := Int32.ofInt v) hown (hts _ ?_) hd ?_
      · rw [← a_onm _ hon]; exact a_inI (a_lkv hv)
      · simpa only [List.map_cons, a_cv, Int32.ofInt_toInt] using k
    · exact (a_no hr).elim
  | ldc2_w n =>
    simp only [a_rsv] at hr
    split at hr
    · rename_i v hv
      obtain ⟨rfl, rfl, rfl⟩ := a_c1v hr
      cases h
      refine lv_ldc2 hx hb (own := mt.1.cls) (v := Int64.ofInt v) hown (hts _ ?_) hd ?_
      · rw [← a_onm _ hon]; exact a_inJ (a_lkv hv)
      · simpa only [List.map_cons, a_cv, Int64.ofInt_toInt] using k
    · exact (a_no hr).elim
  | getstatic n =>
    simp only [a_rsv] at hr
    split at hr
    · rename_i ho
      obtain ⟨rfl, rfl, rfl⟩ := a_c1v hr
      cases h
      obtain ⟨-, -, hz1, hz2, -⟩ := hout
      obtain ⟨ho1, rfl⟩ := ho
      have hcl : RJ0 = mt.1.cls := by rw [← a_onm _ hon, ho1]; rfl
      exact va_gets hx hb hz1 hS (own := RJ0) (by rw [hcl]; exact hown) (hts _ (a_iE _ (by simp [a_Ew, RJ0]))) (fun _ h => h) hd k
    · split at hr
      · rename_i ho
        obtain ⟨rfl, rfl, rfl⟩ := a_c1v hr
        cases h
        obtain ⟨-, -, hz1, hz2, -⟩ := hout
        obtain ⟨ho1, rfl⟩ := ho
        have hcl : RJ0 = mt.1.cls := by rw [← a_onm _ hon, ho1]; rfl
        exact va_gets hx hb hz2 hS (own := RJ0) (by rw [hcl]; exact hown) (hts _ (a_iE _ (by simp [a_Ew, RJ0]))) (fun _ h => h) hd k
      · exact (a_no hr).elim
  | getfield n =>
    simp only [a_rsv] at hr
    split at hr
    · obtain ⟨rfl, rfl, rfl⟩ := a_c1v hr
      exact (a_no h).elim
    · obtain ⟨-, ⟨adK, adV, hE, ⟨e1, e2, e3, e4⟩, hr1, hr2⟩, -⟩ := hout
      split at hr
      · rename_i ho
        obtain ⟨rfl, rfl, rfl⟩ := a_c1v hr
        obtain ⟨ho1, rfl⟩ := ho
        have hcl : RJ0 = mt.1.cls := by rw [← a_onm _ hon, ho1]; rfl
        obtain ⟨x, r, v, rfl, hv, rfl⟩ := a_u1v h
        split at hv
        · cases hv
          show W p l e R s m args below meth c H locs cells slots Q (F0 m pc ls (sv 1 :: r.map (a_cv sv b)))
          rw [e1]
          refine vk_getf hx hb (hE.1 0 (by decide)).2.2.1 hS (own := RJ0) (by rw [hcl]; exact hown) (hts _ (a_iE _ (by simp [a_Ew, RJ0]))) (fun _ h => h) hd ?_
          rw [← e3]; exact k
        · cases hv
          show W p l e R s m args below meth c H locs cells slots Q (F0 m pc ls (sv 2 :: r.map (a_cv sv b)))
          rw [e2]
          refine vk_getf hx hb (hE.1 1 (by decide)).2.2.1 hS (own := RJ0) (by rw [hcl]; exact hown) (hts _ (a_iE _ (by simp [a_Ew, RJ0]))) (fun _ h => h) hd ?_
          rw [← e4]; exact k
        · exact (a_no hv).elim
      · split at hr
        · rename_i ho
          obtain ⟨rfl, rfl, rfl⟩ := a_c1v hr
          obtain ⟨ho1, rfl⟩ := ho
          have hcl : RJ0 = mt.1.cls := by rw [← a_onm _ hon, ho1]; rfl
          obtain ⟨x, r, v, rfl, hv, rfl⟩ := a_u1v h
          split at hv
          · cases hv
            show W p l e R s m args below meth c H locs cells slots Q (F0 m pc ls (sv 1 :: r.map (a_cv sv b)))
            rw [e1]
            exact vk_getf hx hb (hE.1 0 (by decide)).2.1 hS (own := RJ0) (by rw [hcl]; exact hown) (hts _ (a_iE _ (by simp [a_Ew, RJ0]))) (fun _ h => h) hd k
          · cases hv
            show W p l e R s m args below meth c H locs cells slots Q (F0 m pc ls (sv 2 :: r.map (a_cv sv b)))
            rw [e2]
            exact vk_getf hx hb (hE.1 1 (by decide)).2.1 hS (own := RJ0) (by rw [hcl]; exact hown) (hts _ (a_iE _ (by simp [a_Ew, RJ0]))) (fun _ h => h) hd k
          · exact (a_no hv).elim
        · exact (a_no hr).elim
  | invokespecial n =>
    simp only [a_rsv] at hr
    split at hr
    · rename_i ho
      obtain ⟨rfl, rfl, rfl⟩ := a_c1v hr
      simp only [a_stk] at h
      split at h
      · rename_i a r
        split at h
        · rename_i h8
          cases h
          have h9 : ((st'.map (a_cv sv b)).map fun v => v.category).sum ≤ 8 := by rw [a_cat hsv]; exact h8
          refine W.objInit hx hb (own := mt.1.cls) hown (hts _ ?_) (hts _ (a_iE _ (by simp [a_Ew]))) (hts _ (a_iE _ (by simp [a_Ew]))) (g := F0 m pc ls (.ref (b + a) :: st'.map (a_cv sv b))) rfl hsz rfl hd hR.2 ?_ k
          · rw [← a_onm _ hon]; exact a_inO ho
          · have := lv_room (m := m) (pc := pc) (ls := ls) (rest := .ref (b + a) :: st'.map (a_cv sv b)) h9
            omega
        · exact (a_no h).elim
      · exact (a_no h).elim
    · split at hr
      · obtain ⟨rfl, rfl, rfl⟩ := a_c1v hr; exact (a_no h).elim
      · split at hr
        · obtain ⟨rfl, rfl, rfl⟩ := a_c1v hr; exact (a_no h).elim
        · exact (a_no hr).elim
  | _ =>
    first
      | exact (a_no hr).elim
      | (obtain ⟨rfl, rfl, rfl⟩ := a_c1v hr; exact (a_no h).elim)
      | (simp only [a_rsv, a_tg] at hr; (repeat' split at hr) <;> first | exact (a_no hr).elim | (cases hr; exact (a_no h).elim) | (obtain ⟨rfl, rfl, rfl⟩ := a_c1v hr; exact (a_no h).elim))
end

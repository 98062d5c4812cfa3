section
variable {p : Program} {l : Launch} {e : Env} {R : Room} {s : State} {m : MethodId} {args : Array Value} {below : List Frame} {meth : Method} {c : Code} {H : Heap} {locs : List Loc} {cells slots : Nat} {Q : State → Prop} {D : va_G} {tc : Nat → ClassId} {sv : Nat → Value} {b : Nat} {X : mX} {mt : mT}
theorem a_vinv {j : Int32} {n : Nat} (h : a_vin j n = true) : vp_in j n := by
  unfold a_vin at h
  simp only [Bool.not_eq_true', Bool.or_eq_false_iff, decide_eq_false_iff_not] at h
  intro hq
  rcases hq with hq | hq
  · exact h.1 hq
  · exact h.2 hq
theorem a_P1 {a : Nat} {x : va_E} (h : va_at D a_cl (a, x) H) : va_P D a_cl [(a, x)] H := by
  intro k q hk
  match k with
  | 0 => cases hk; exact h
  | k + 1 => simp at hk
theorem a_inT {ci : Nat} {r : vw_C} (h : a_cl[ci]? = some r) : (∀ w ∈ u_ws r.1 r.2.1 r.2.2, w ∈ a_wl) ∧ Cond.instantiable r.1 r.2.2 ∈ a_wl ∧ Cond.initialized r.1 ∈ a_wl := by
  have hm := List.mem_of_getElem? h
  have h1 : ∀ w ∈ (u_ws r.1 r.2.1 r.2.2 ++ [Cond.instantiable r.1 r.2.2, Cond.initialized r.1]), w ∈ a_wl := fun w hw => a_iT w (List.mem_flatMap.mpr ⟨r, hm, hw⟩)
  exact ⟨fun w hw => h1 w (List.mem_append_left _ hw), h1 _ (List.mem_append_right _ (by simp)), h1 _ (List.mem_append_right _ (by simp))⟩
theorem a_hF {n o : Nat} {q : Nat × Nat} {r : vw_C} (hts : ∀ w ∈ a_wl, w.before args s = true) (h : a_lk (a_pF.getD o []) n = some q) (hr : a_cl[q.1]? = some r) : (Cond.fieldLink (a_on o) n (r.2.1 q.2).1 (r.2.1 q.2).2.1 (r.2.1 q.2).2.2.1).before args s = true := by
  have h1 := hts _ (a_inF (a_lkv h))
  unfold a_fl at h1
  rw [hr] at h1
  exact h1
theorem a_wd.obj {n a ci : Nat} {M : mM} {fs : List Value} (h : a_wd D tc sv b n M H) (hm : M a = .inr (ci, fs)) (hc : ci < 11) : a < n ∧ va_at D a_cl (b + a, .inr (ci, fs.map (a_cv sv b))) H := by
  have h1 := h.2 a (by rw [hm]; simp [a_ok, hc])
  rw [hm] at h1
  exact h1
theorem a_wd.arr {n a k z : Nat} {M : mM} {f : (Nat → Int32) ⊕ (Nat → Int64) ⊕ (Nat → UInt32) ⊕ (Nat → UInt64) ⊕ (Nat → Option Nat)} (h : a_wd D tc sv b n M H) (hm : M a = .inl (k, z, f)) (hc : k < 4) : a < n ∧ va_at D a_cl (b + a, .inl (tc k, a_ca b (z, f))) H := by
  have h1 := h.2 a (by rw [hm]; simp [a_ok, hc])
  rw [hm] at h1
  exact h1
theorem a_cvrf (r : Option Nat) : a_cv sv b (va_rf r) = va_rf (r.map (b + ·)) := by cases r <;> rfl
set_option maxHeartbeats 4000000 in
set_option maxRecDepth 100000 in
theorem a_Srd (C0 : a_cx p s m args meth c D tc sv b X mt) (hS : va_S (fun q => b ≤ q) s.heap H locs) {n : Nat} {M : mM} (hw : a_wd D tc sv b n M H) {i i' : mI} {len nx pc : Nat} {st st' : List Value} {ls : Array Slot} (hd : decode mt.2.1 pc = .ok (i, len)) (hr : a_rsv mt pc i len = some (i', nx)) (h : a_rd X i' st M = some st') (k : W p l e R s m args below meth c H locs cells slots Q (F0 m nx ls (st'.map (a_cv sv b)))) : W p l e R s m args below meth c H locs cells slots Q (F0 m pc ls (st.map (a_cv sv b))) := by
  obtain ⟨hx, hb, hml, hown, hnm, hts, hK, hout, hbs, hon, hsv⟩ := C0
  cases i with
  | getfield n =>
    simp only [a_rsv] at hr
    split at hr
    · rename_i q hq
      obtain ⟨rfl, rfl, rfl⟩ := a_c1v hr
      obtain ⟨r0, hr0, hk0, hc0⟩ := a_Fk _ (a_pool (by decide +kernel) (a_lkv hq)) _ (a_lkv hq)
      simp only [a_rd] at h
      split at h
      · rename_i a r
        split at h
        · rename_i c' fs hM
          split at h
          · rename_i hcc
            subst hcc
            split at h
            · rename_i v hv
              cases h
              obtain ⟨hlt, hat⟩ := hw.obj hM hc0
              refine va_get hx hb (own := mt.1.cls) (ref := (r0.2.1 q.2).1) (C := r0.1) (T := r0.2.1) (N := r0.2.2) hts (a_inT hr0).1 hown hK (a_P1 hat) 0 rfl hr0 q.2 hk0 ?_ (fun _ h => h) (v := a_cv sv b v) ?_ hd k
              · rw [← a_onm _ hon]; exact a_hF hts hq hr0
              · rw [List.getElem?_map, hv]; rfl
            · exact (a_no h).elim
          · exact (a_no h).elim
        · exact (a_no h).elim
      · exact (a_no h).elim
    · split at hr
      · obtain ⟨rfl, rfl, rfl⟩ := a_c1v hr; exact (a_no h).elim
      · split at hr
        · obtain ⟨rfl, rfl, rfl⟩ := a_c1v hr; exact (a_no h).elim
        · exact (a_no hr).elim
  | arraylength =>
    obtain ⟨rfl, rfl, rfl⟩ := a_c1v hr
    simp only [a_rd] at h
    split at h
    · rename_i a r
      split at h
      · rename_i k0 n0 f0 hM
        split at h
        · rename_i hk0
          cases h
          obtain ⟨hlt, hat⟩ := hw.arr hM hk0
          rcases (show k0 = 0 ∨ k0 = 1 ∨ k0 = 2 ∨ k0 = 3 by omega) with rfl | rfl | rfl | rfl
          · exact va_alen hx hb hK (a_P1 hat) 0 0 rfl (ty := .int) rfl rfl hd k
          · exact va_alen hx hb hK (a_P1 hat) 0 1 rfl (ty := .char) rfl rfl hd k
          · exact va_alen hx hb hK (a_P1 hat) 0 2 rfl (ty := .long) rfl rfl hd k
          · exact va_alen hx hb hK (a_P1 hat) 0 3 rfl (ty := .object "NoonBell$Moment") rfl rfl hd k
        · exact (a_no h).elim
      · exact (a_no h).elim
    · split at h
      · obtain ⟨⟨scr, e0, h0, hX⟩, -⟩ := hout
        cases h
        show W p l e R s m args below meth c H locs cells slots Q (F0 m pc ls (sv 0 :: List.map (a_cv sv b) _))
        rw [e0]
        exact va_slen hx hb (hX _ rfl) (by omega) (by omega) hS hd k
      · exact (a_no h).elim
    · obtain ⟨-, ⟨adK, adV, hE, ⟨e1, e2, e3, e4⟩, hr1, hr2⟩, -⟩ := hout
      cases h
      show W p l e R s m args below meth c H locs cells slots Q (F0 m pc ls (sv 11 :: List.map (a_cv sv b) _))
      rw [e3]
      exact va_tlen hx hb (hE.1 0 (by decide)).2.2.2 hS rfl hd k
    · obtain ⟨-, ⟨adK, adV, hE, ⟨e1, e2, e3, e4⟩, hr1, hr2⟩, -⟩ := hout
      cases h
      show W p l e R s m args below meth c H locs cells slots Q (F0 m pc ls (sv 12 :: List.map (a_cv sv b) _))
      rw [e4]
      exact va_tlen hx hb (hE.1 1 (by decide)).2.2.2 hS rfl hd k
    · exact (a_no h).elim
  | iaload =>
    obtain ⟨rfl, rfl, rfl⟩ := a_c1v hr
    simp only [a_rd] at h
    split at h
    · rename_i j a r
      split at h
      · rename_i n0 f0 hM
        split at h
        · rename_i hin
          cases h
          obtain ⟨hlt, hat⟩ := hw.arr hM (by decide)
          exact va_iald hx hb hK (a_P1 hat) 0 0 rfl rfl (a_vinv hin) hd k
        · exact (a_no h).elim
      · exact (a_no h).elim
    · split at h
      · split at h
        · rename_i hin
          obtain ⟨⟨scr, e0, h0, hX⟩, -⟩ := hout
          cases h
          show W p l e R s m args below meth c H locs cells slots Q (F0 m pc ls (.int _ :: sv 0 :: List.map (a_cv sv b) _))
          rw [e0]
          exact va_sld hx hb (hX _ rfl) (by omega) (by omega) hS (a_vinv hin) hd k
        · exact (a_no h).elim
      · exact (a_no h).elim
    · exact (a_no h).elim
  | caload =>
    obtain ⟨rfl, rfl, rfl⟩ := a_c1v hr
    simp only [a_rd] at h
    split at h
    · rename_i j a r
      split at h
      · rename_i n0 f0 hM
        split at h
        · rename_i hin
          cases h
          obtain ⟨hlt, hat⟩ := hw.arr hM (by decide)
          exact va_cald hx hb hK (a_P1 hat) 0 1 rfl rfl (a_vinv hin) hd k
        · exact (a_no h).elim
      · exact (a_no h).elim
    · exact (a_no h).elim
  | laload =>
    obtain ⟨rfl, rfl, rfl⟩ := a_c1v hr
    simp only [a_rd] at h
    split at h
    · rename_i j a r
      split at h
      · rename_i n0 f0 hM
        split at h
        · rename_i hin
          cases h
          obtain ⟨hlt, hat⟩ := hw.arr hM (by decide)
          exact va_lald hx hb hK (a_P1 hat) 0 2 rfl rfl (a_vinv hin) hd k
        · exact (a_no h).elim
      · exact (a_no h).elim
    · exact (a_no h).elim
  | aaload =>
    obtain ⟨rfl, rfl, rfl⟩ := a_c1v hr
    simp only [a_rd] at h
    split at h
    · rename_i j a r
      split at h
      · rename_i n0 f0 hM
        split at h
        · rename_i hin
          cases h
          obtain ⟨hlt, hat⟩ := hw.arr hM (by decide)
          refine va_aldq hx hb hK (a_P1 hat) 0 3 rfl rfl (a_vinv hin) hd ?_
          simp only [List.map_cons, a_cvrf] at k
          exact k
        · exact (a_no h).elim
      · exact (a_no h).elim
    · exact (a_no h).elim
  | baload =>
    obtain ⟨rfl, rfl, rfl⟩ := a_c1v hr
    obtain ⟨-, ⟨adK, adV, hE, ⟨e1, e2, e3, e4⟩, hr1, hr2⟩, -⟩ := hout
    simp only [a_rd] at h
    split at h
    · split at h
      · rename_i hin
        cases h
        show W p l e R s m args below meth c H locs cells slots Q (F0 m pc ls (.int _ :: sv 11 :: List.map (a_cv sv b) _))
        rw [e3]
        exact va_tb hx hb (hE.1 0 (by decide)).2.2.2 hS (a_vinv hin) rfl hd k
      · exact (a_no h).elim
    · split at h
      · rename_i hin
        cases h
        show W p l e R s m args below meth c H locs cells slots Q (F0 m pc ls (.int _ :: sv 12 :: List.map (a_cv sv b) _))
        rw [e4]
        exact va_tb hx hb (hE.1 1 (by decide)).2.2.2 hS (a_vinv hin) rfl hd k
      · exact (a_no h).elim
    · exact (a_no h).elim
  | _ =>
    first
      | exact (a_no hr).elim
      | (obtain ⟨rfl, rfl, rfl⟩ := a_c1v hr; exact (a_no h).elim)
      | (simp only [a_rsv, a_tg] at hr; (repeat' split at hr) <;> first | exact (a_no hr).elim | (cases hr; exact (a_no h).elim) | (obtain ⟨rfl, rfl, rfl⟩ := a_c1v hr; exact (a_no h).elim))
end

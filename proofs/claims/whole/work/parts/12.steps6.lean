section
variable {p : Program} {l : Launch} {e : Env} {R : Room} {s : State} {m : MethodId} {args : Array Value} {below : List Frame} {meth : Method} {c : Code} {H : Heap} {locs : List Loc} {cells slots : Nat} {Q : State → Prop} {D : va_G} {tc : Nat → ClassId} {sv : Nat → Value} {b : Nat} {X : mX} {mt : mT}
theorem a_SnewA {A : Nat → Prop} {H0 H1 : Heap} (hS : va_S A H0 H locs) (z : H1.size = H.size + 1) (o : ∀ q : Nat, q < H.size → H1[q]? = H[q]?) : va_S A H0 H1 locs :=
  ⟨Nat.le_trans hS.1 (by omega), fun x h1 h2 => (o x (Nat.lt_of_lt_of_le h1 hS.1)).trans (hS.2.1 x h1 h2), hS.2.2⟩
theorem a_hC {k o : Nat} {ci : Nat} {r : vw_C} (hts : ∀ w ∈ a_wl, w.before args s = true) (h : a_lk (a_pC.getD o []) k = some ci) (hr : a_cl[ci]? = some r) : (Cond.classLink (a_on o) k r.1).before args s = true := by
  have h1 := hts _ (a_inC (a_lkv h))
  unfold a_kl at h1
  rw [hr] at h1
  exact h1
set_option maxHeartbeats 4000000 in
set_option maxRecDepth 100000 in
theorem a_Snw (C0 : a_cx p s m args meth c D tc sv b X mt) (hS : va_S (fun q => b ≤ q) s.heap H locs) {n : Nat} {M : mM} (hw : a_wd D tc sv b n M H) {i i' : mI} {len nx pc : Nat} {st : List Value} {q : List Value × mC × Nat} {ls : Array Slot} (hd : decode mt.2.1 pc = .ok (i, len)) (hr : a_rsv mt pc i len = some (i', nx)) (h : a_nw i' st n = some q) (hcells : cells + 1 ≤ R.cells) (hslots : slots + q.2.2 ≤ R.slots) (k : ∀ H1, a_wd D tc sv b (n + 1) (a_up M n q.2.1) H1 → va_S (fun q => b ≤ q) s.heap H1 locs → W p l e R s m args below meth c H1 locs (cells + 1) (slots + q.2.2) Q (F0 m nx ls (q.1.map (a_cv sv b)))) : W p l e R s m args below meth c H locs cells slots Q (F0 m pc ls (st.map (a_cv sv b))) := by
  obtain ⟨hx, hb, hml, hown, hnm, hts, hK, hout, hbs, hon, hsv⟩ := C0
  cases i with
  | new k0 =>
    simp only [a_rsv] at hr
    split at hr
    · rename_i ci hci
      obtain ⟨rfl, rfl, rfl⟩ := a_c1v hr
      simp only [a_nw] at h
      split at h
      · rename_i r0 hr0
        cases h
        obtain ⟨hin, hins, hini⟩ := a_inT hr0
        have hKn := hK.1 ci _ hr0
        refine W.newcK hx hb (own := mt.1.cls) hown ?_ (hts _ hins) (hts _ hini) rfl hd hcells hslots hKn.2.1 hw.1 fun H1 kC hkC e1 z1 o1 => ?_
        · rw [← a_onm _ hon]; exact a_hC hts hci hr0
        · rw [← hw.1] at z1 o1
          refine k H1 (hw.push z1 ⟨r0, hr0, ?_⟩ o1) (a_SnewA hS z1 o1)
          refine (u_born (a_ty.getD ci (fun _ => .int)) hts hin hKn hkC e1 (a_tyk hr0)).to fun j hj => ?_
          show _ = vp_V ((a_fs0 ci).map (a_cv sv b)) j
          unfold a_fs0
          rw [hr0]
          simp only [vp_V, List.map_map, List.getD_eq_getElem?_getD, List.getElem?_map, List.getElem?_range hj, Option.map_some, Option.getD_some, Function.comp]
          rw [a_cvd]
          simpa only [List.getD_eq_getElem?_getD] using (a_d0k hr0 j hj).symm
      · exact (a_no h).elim
    · exact (a_no hr).elim
  | newarray t =>
    obtain ⟨rfl, rfl, rfl⟩ := a_c1v hr
    cases t with
    | int =>
      simp only [a_nw] at h
      split at h
      · split at h
        · rename_i hk
          cases h
          refine va_newaK hx hb (hts _ (a_iE _ (by simp [a_Ew, newarray.typeOf]))) rfl hd rfl hk.1 rfl ?_ hcells hslots hw.1 fun H1 cA e1 z1 o1 hAr hNm => ?_
          · have h1 : componentBytes (newarray.typeOf .int) = 4 := rfl
            rw [h1]; omega
          · rw [← hw.1] at z1 o1
            obtain rfl : tc 0 = cA := Option.some.inj ((hK.2 0 _ rfl).2.symm.trans hNm)
            exact k H1 (hw.push z1 e1 o1) (a_SnewA hS z1 o1)
        · exact (a_no h).elim
      · exact (a_no h).elim
    | char =>
      simp only [a_nw] at h
      split at h
      · split at h
        · rename_i hk
          cases h
          refine va_newaK hx hb (hts _ (a_iE _ (by simp [a_Ew, newarray.typeOf]))) rfl hd rfl hk.1 rfl ?_ hcells hslots hw.1 fun H1 cA e1 z1 o1 hAr hNm => ?_
          · have h1 : componentBytes (newarray.typeOf .char) = 2 := rfl
            rw [h1]; omega
          · rw [← hw.1] at z1 o1
            obtain rfl : tc 1 = cA := Option.some.inj ((hK.2 1 _ rfl).2.symm.trans hNm)
            exact k H1 (hw.push z1 e1 o1) (a_SnewA hS z1 o1)
        · exact (a_no h).elim
      · exact (a_no h).elim
    | long =>
      simp only [a_nw] at h
      split at h
      · split at h
        · rename_i hk
          cases h
          refine va_newaK hx hb (hts _ (a_iE _ (by simp [a_Ew, newarray.typeOf]))) rfl hd rfl hk.1 rfl ?_ hcells hslots hw.1 fun H1 cA e1 z1 o1 hAr hNm => ?_
          · have h1 : componentBytes (newarray.typeOf .long) = 8 := rfl
            rw [h1]; omega
          · rw [← hw.1] at z1 o1
            obtain rfl : tc 2 = cA := Option.some.inj ((hK.2 2 _ rfl).2.symm.trans hNm)
            exact k H1 (hw.push z1 e1 o1) (a_SnewA hS z1 o1)
        · exact (a_no h).elim
      · exact (a_no h).elim
    | _ => exact (a_no h).elim
  | anewarray k0 =>
    simp only [a_rsv] at hr
    split at hr
    · rename_i ho
      obtain ⟨rfl, rfl, rfl⟩ := a_c1v hr
      obtain ⟨ho1, rfl⟩ := ho
      have hcl : RX5 = mt.1.cls := by rw [← a_onm _ hon, ho1]; rfl
      simp only [a_nw] at h
      split at h
      · rename_i z0 r
        split at h
        · rename_i hk
          cases h
          obtain ⟨-, -, -, -, -, hover⟩ := hout
          refine W.anew hx hb (own := RX5) (by rw [hcl]; exact hown) (hts _ (a_iE _ (by simp [a_Ew, RX5]))) (va_AO.use hover) rfl hd rfl hk.1 (by omega) hcells hslots fun cA kA comp f1 f2 f3 f4 => ?_
          generalize hH1 : H.push ({ cls := cA, slots := Array.replicate z0.toNatClampNeg .null, vm := .none } : Cell) = H1
          have z1 : H1.size = H.size + 1 := by rw [← hH1, Array.size_push]
          have e1 : H1[H.size]? = some (arrV cA z0.toNatClampNeg (fun _ => .null)) := by rw [← hH1, Array.getElem?_push_size, ← arrV_new]
          have o1 : ∀ q : Nat, q < H.size → H1[q]? = H[q]? := fun q hq => by rw [← hH1, Array.getElem?_push, if_neg (Nat.ne_of_lt hq)]
          obtain ⟨kA', comp', g1, g2, g3, g4⟩ := (hK.2 3 _ rfl).2
          obtain rfl : tc 3 = cA := Option.some.inj (g4.symm.trans f1)
          rw [hw.1] at e1 ⊢
          exact k H1 (hw.push z1 e1 o1) (a_SnewA hS z1 o1)
        · exact (a_no h).elim
      · exact (a_no h).elim
    · exact (a_no hr).elim
  | _ =>
    first
      | exact (a_no hr).elim
      | (obtain ⟨rfl, rfl, rfl⟩ := a_c1v hr; exact (a_no h).elim)
      | (simp only [a_rsv, a_tg] at hr; (repeat' split at hr) <;> first | exact (a_no hr).elim | (cases hr; exact (a_no h).elim) | (obtain ⟨rfl, rfl, rfl⟩ := a_c1v hr; exact (a_no h).elim))
end

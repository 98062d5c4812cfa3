section
variable {p : Program} {l : Launch} {e : Env} {R : Room} {s : State} {m : MethodId} {args : Array Value} {below : List Frame} {meth : Method} {c : Code} {H : Heap} {locs : List Loc} {cells slots : Nat} {Q : State → Prop} {D : va_G} {tc : Nat → ClassId} {sv : Nat → Value} {b : Nat} {X : mX} {mt : mT}
theorem a_upS {M : mM} {a : Nat} {x : mC} : a_up M a x a = x := by simp [a_up]
theorem a_upN {M : mM} {a j : Nat} {x : mC} (h : j ≠ a) : a_up M a x j = M j := by simp [a_up, h]
theorem a_wd.up {n a : Nat} {M : mM} {x : mC} {H1 : Heap} (h : a_wd D tc sv b n M H) (ha : a_ok (M a) = true) (z : H1.size = H.size) (hn : va_at D a_cl (b + a, a_ce tc sv b x) H1) (o : ∀ q : Nat, q ≠ b + a → H1[q]? = H[q]?) : a_wd D tc sv b n (a_up M a x) H1 := by
  refine ⟨z.trans h.1, fun i hi => ?_⟩
  by_cases hia : i = a
  · subst hia
    rw [a_upS]
    exact ⟨(h.2 i ha).1, hn⟩
  · rw [a_upN hia] at hi ⊢
    exact ⟨(h.2 i hi).1, (h.2 i hi).2.kept (o (b + i) (by omega))⟩
theorem a_wd.push {n : Nat} {M : mM} {x : mC} {H1 : Heap} (h : a_wd D tc sv b n M H) (z : H1.size = H.size + 1) (hn : va_at D a_cl (b + n, a_ce tc sv b x) H1) (o : ∀ q : Nat, q < H.size → H1[q]? = H[q]?) : a_wd D tc sv b (n + 1) (a_up M n x) H1 := by
  have h1 := h.1
  refine ⟨by omega, fun i hi => ?_⟩
  by_cases hia : i = n
  · subst hia
    rw [a_upS]
    exact ⟨by omega, hn⟩
  · rw [a_upN hia] at hi ⊢
    obtain ⟨hlt, hat⟩ := h.2 i hi
    exact ⟨by omega, hat.kept (o (b + i) (by omega))⟩
theorem a_fitv {ty : FieldType} {v : Value} (h : a_fit ty v = true) : narrow ty (a_cv sv b v) = a_cv sv b v ∧ fits ty (a_cv sv b v) = true := by
  unfold a_fit at h
  split at h
  · exact ⟨rfl, rfl⟩
  · exact ⟨rfl, rfl⟩
  · rename_i x
    simp only [Bool.or_eq_true, beq_iff_eq] at h
    rcases h with rfl | rfl
    · exact ⟨(by decide : narrow .boolean (.int 0) = .int 0), (by decide : fits .boolean (.int 0) = true)⟩
    · exact ⟨(by decide : narrow .boolean (.int 1) = .int 1), (by decide : fits .boolean (.int 1) = true)⟩
  · exact ⟨rfl, rfl⟩
  · exact ⟨rfl, rfl⟩
  · exact ⟨rfl, rfl⟩
  · exact ⟨rfl, rfl⟩
  · cases h
/-- the field tables: types, names apart -/
theorem a_tyk {ci : Nat} {r : vw_C} (h : a_cl[ci]? = some r) : ∀ k, k < r.2.2 → parseFieldDescriptor (r.2.1 k).2.2.1 = some (a_ty.getD ci (fun _ => .int) k) := by
  match ci, h with
  | 0, h => cases h; exact tyX0_ok
  | 1, h => cases h; exact tyX1_ok
  | 2, h => cases h; exact tyX2_ok
  | 3, h => cases h; exact tyX3_ok
  | 4, h => cases h; exact tyX4_ok
  | 5, h => cases h; exact tyX5_ok
  | 6, h => cases h; exact tyX6_ok
  | 7, h => cases h; exact tyX7_ok
  | 8, h => cases h; exact tyX8_ok
  | 9, h => cases h; exact tyX9_ok
  | 10, h => cases h; exact tyX10_ok
  | k + 11, h => simp [a_cl] at h
theorem a_nmk {ci : Nat} {r : vw_C} (h : a_cl[ci]? = some r) : ∀ x, x < r.2.2 → ∀ y, y < r.2.2 → x ≠ y → (r.2.1 x).2.1 ≠ (r.2.1 y).2.1 := by
  match ci, h with
  | 0, h => cases h; exact nmX0
  | 1, h => cases h; exact nmX1
  | 2, h => cases h; exact nmX2
  | 3, h => cases h; exact nmX3
  | 4, h => cases h; exact nmX4
  | 5, h => cases h; exact nmX5
  | 6, h => cases h; exact nmX6
  | 7, h => cases h; exact nmX7
  | 8, h => cases h; exact nmX8
  | 9, h => cases h; exact nmX9
  | 10, h => cases h; exact nmX10
  | k + 11, h => simp [a_cl] at h
theorem a_clk {ci : Nat} {r : vw_C} (h : a_cl[ci]? = some r) : ci < 11 := (List.getElem?_eq_some_iff.mp h).1
theorem a_d0k {ci : Nat} {r : vw_C} (h : a_cl[ci]? = some r) : ∀ k, k < r.2.2 → a_d0 (a_ty.getD ci (fun _ => .int) k) = defaultValue (a_ty.getD ci (fun _ => .int) k) := by
  have h1 : ((List.range 11).all (fun ci => match a_cl[ci]? with
    | some r => (List.range r.2.2).all (fun k => decide (a_d0 (a_ty.getD ci (fun _ => .int) k) = defaultValue (a_ty.getD ci (fun _ => .int) k)))
    | none => false)) = true := by decide +kernel
  intro k hk
  have h2 := List.all_eq_true.mp h1 ci (List.mem_range.mpr (a_clk h))
  rw [h] at h2
  have h3 := List.all_eq_true.mp h2 k (List.mem_range.mpr hk)
  simpa using h3
theorem a_cvd (t : FieldType) : a_cv sv b (a_d0 t) = a_d0 t := by cases t <;> rfl
/-- a field that the method may write -/
theorem a_putk (C0 : a_cx p s m args meth c D tc sv b X mt) (hS : va_S (fun q => b ≤ q) s.heap H locs) {n a ci k nx : Nat} {M : mM} (hw : a_wd D tc sv b n M H) {fs : List Value} (hM : M a = .inr (ci, fs)) {r0 : vw_C} (hr0 : a_cl[ci]? = some r0) (hk : k < r0.2.2) (hkl : k < fs.length) (hfin : (r0.2.1 k).2.2.2 = false ∨ (mt.1.name = "<init>" ∧ mt.2.2.2.2 = ci ∧ (r0.2.1 k).1 = mt.1.cls)) {v : Value} (hfit : a_fit (a_ty.getD ci (fun _ => .int) k) v = true) {pc : Nat} {rest : List Value} {ls : Array Slot} (hlink : (Cond.fieldLink mt.1.cls nx (r0.2.1 k).1 (r0.2.1 k).2.1 (r0.2.1 k).2.2.1).before args s = true) (hd : decode mt.2.1 pc = .ok (.putfield nx, 3))
    (kk : ∀ H1 locs1, a_wd D tc sv b n (a_up M a (.inr (ci, fs.set k v))) H1 → va_S (fun q => b ≤ q) s.heap H1 locs1 → W p l e R s m args below meth c H1 locs1 cells slots Q (F0 m (pc + 3) ls rest)) : W p l e R s m args below meth c H locs cells slots Q (F0 m pc ls (a_cv sv b v :: .ref (b + a) :: rest)) := by
  obtain ⟨hx, hb, hml, hown, hnm, hts, hK, hout, hbs, hon, hsv⟩ := C0
  obtain ⟨hin, -, -⟩ := a_inT hr0
  have hap := va_apart (own := mt.1.cls) hts hin (a_ty.getD ci (fun _ => .int)) (a_tyk hr0) (a_nmk hr0) hK hr0
  obtain ⟨hlt, hat⟩ := hw.obj hM (a_clk hr0)
  obtain ⟨r, h1, cell, q1, q2, q3, q4⟩ := hat
  have hr : r = r0 := Option.some.inj (h1.symm.trans hr0)
  subst hr
  obtain ⟨hSl, hfc, kC, hkC, hkind⟩ := hK.1 ci _ hr0
  obtain ⟨cf, kf, fi, f, hi, hsl⟩ := hSl k hk
  obtain ⟨hn, hf⟩ := a_fitv (sv := sv) (b := b) hfit
  have hdd := a_tyk hr0 k hk
  have hlay := hts _ (hin _ (u_in_lay hk))
  have hst := (u_facts hfc hkC (u_lays hts hin hk) hi).1
  have fin : ∀ (H' : Heap) (locs1 : List Loc), H'[b + a]? = some (cell.setSlot f.slot (a_cv sv b v)) → H'.size = H.size → (∀ q : Nat, q ≠ b + a → H'[q]? = H[q]?) → a_wd D tc sv b n (a_up M a (.inr (ci, fs.set k v))) H' := by
    intro H' locs1 e1 e2 e3
    rw [hsl] at e1
    refine hw.up (by rw [hM]; simp [a_ok, a_clk hr0]) e2 ?_ e3
    refine ⟨_, hr0, ?_⟩
    have := t_OB.to (V := updV (vp_V (fs.map (a_cv sv b))) k (a_cv sv b v)) (V' := vp_V ((fs.set k v).map (a_cv sv b))) ⟨_, e1, q2, q3, t_set q4 hap hk (a_cv sv b v)⟩ (fun j _ => by rw [vp_updV_set (by simpa using hkl) (a_cv sv b v) j, List.map_set])
    exact this
  rcases hfin with hfin | ⟨hfin1, hfin2, hfin3⟩
  · unfold u_lay at hlay
    rw [if_neg (by rw [hfin]; decide)] at hlay
    have h6 := u_store hfc hkC hkind hlay hi hdd hn hf
    refine W.putK hx hb (f := f) ⟨hown, hlink, ⟨_, _, _, hi⟩, hst⟩ (by rw [q2]; exact h6) q1 q3 (by rw [hsl]; exact k2_hasslot (q4 k hk)) rfl rfl hd fun H' e1 e2 e3 => ?_
    exact kk H' _ (fin H' [] e1 e2 e3) (hS.put e2 e3 (by omega))
  · by_cases hfl : (r.2.1 k).2.2.2 = false
    · unfold u_lay at hlay
      rw [if_neg (by rw [hfl]; decide)] at hlay
      have h6 := u_store hfc hkC hkind hlay hi hdd hn hf
      refine W.putK hx hb (f := f) ⟨hown, hlink, ⟨_, _, _, hi⟩, hst⟩ (by rw [q2]; exact h6) q1 q3 (by rw [hsl]; exact k2_hasslot (q4 k hk)) rfl rfl hd fun H' e1 e2 e3 => ?_
      exact kk H' _ (fin H' [] e1 e2 e3) (hS.put e2 e3 (by omega))
    · have hft : (r.2.1 k).2.2.2 = true := by cases hz : (r.2.1 k).2.2.2 with
        | true => rfl
        | false => exact absurd hz hfl
      unfold u_lay at hlay
      rw [if_pos hft] at hlay
      have hcf : m.cls = cf := by
        obtain ⟨_, _, c', _, _, _, -, -, hf', -, -, -, hown2, -⟩ := Cond.laysFinal_spec hlay
        have e1 : c' = cf := by have := hi.symm.trans hf'; simp at this; exact this.1.symm
        rw [hfin3] at hown2
        rw [← e1]; exact Option.some.inj (hown.symm.trans hown2)
      have h6 := u_fits hfc hkC hkind (Or.inr hlay) hi hdd hn hf
      refine W.putFinK hx hb hown hlink hi hst hcf (hnm hfin1) (by rw [q2]; exact h6) q1 q3 (by rw [hsl]; exact k2_hasslot (q4 k hk)) rfl rfl hd fun H' e1 e2 e3 => ?_
      exact kk H' _ (fin H' [] e1 e2 e3) (hS.put e2 e3 (by omega))
/-- the declaring name of every field is its own -/
theorem a_dcl {ci k : Nat} {r : vw_C} (h : a_cl[ci]? = some r) (hk : k < r.2.2) : (r.2.1 k).1 = a_on ci := by
  have h1 : ((List.range 11).all (fun ci => match a_cl[ci]? with
    | some r => (List.range r.2.2).all (fun k => decide ((r.2.1 k).1 = a_on ci))
    | none => false)) = true := by decide +kernel
  have h2 := List.all_eq_true.mp h1 ci (List.mem_range.mpr (a_clk h))
  rw [h] at h2
  have h3 := List.all_eq_true.mp h2 k (List.mem_range.mpr hk)
  simpa using h3
set_option maxHeartbeats 4000000 in
set_option maxRecDepth 100000 in
theorem a_Swr (C0 : a_cx p s m args meth c D tc sv b X mt) (hS : va_S (fun q => b ≤ q) s.heap H locs) {n : Nat} {M : mM} (hw : a_wd D tc sv b n M H) {i i' : mI} {len nx pc : Nat} {st : List Value} {q : List Value × mM} {ls : Array Slot} (hd : decode mt.2.1 pc = .ok (i, len)) (hr : a_rsv mt pc i len = some (i', nx)) (h : a_wr i' st M = some q) (k : ∀ H1 locs1, a_wd D tc sv b n q.2 H1 → va_S (fun q => b ≤ q) s.heap H1 locs1 → W p l e R s m args below meth c H1 locs1 cells slots Q (F0 m nx ls (q.1.map (a_cv sv b)))) : W p l e R s m args below meth c H locs cells slots Q (F0 m pc ls (st.map (a_cv sv b))) := by
  have C1 := C0
  obtain ⟨hx, hb, hml, hown, hnm, hts, hK, hout, hbs, hon, hsv⟩ := C0
  cases i with
  | putfield n =>
    simp only [a_rsv] at hr
    split at hr
    · rename_i q0 hq0
      split at hr
      · rename_i r0 hr0
        split at hr
        · rename_i hfin
          obtain ⟨rfl, rfl, rfl⟩ := a_c1v hr
          obtain ⟨r1, hr1, hk0, hc0⟩ := a_Fk _ (a_pool (by decide +kernel) (a_lkv hq0)) _ (a_lkv hq0)
          obtain rfl : r0 = r1 := Option.some.inj (hr0.symm.trans hr1)
          simp only [a_wr] at h
          split at h
          · rename_i v a r
            split at h
            · rename_i c' fs hM
              split at h
              · rename_i hcc
                obtain ⟨rfl, hkl, hfit⟩ := hcc
                cases h
                refine a_putk C1 hS hw hM hr0 hk0 hkl ?_ hfit (nx := n) ?_ hd k
                · rcases hfin with z | ⟨z1, z2⟩
                  · exact Or.inl z
                  · exact Or.inr ⟨z1, z2, by rw [a_dcl hr0 hk0, ← z2, a_onm _ hon]⟩
                · rw [← a_onm _ hon]; exact a_hF hts hq0 hr0
              · exact (a_no h).elim
            · exact (a_no h).elim
          · exact (a_no h).elim
        · exact (a_no hr).elim
      · exact (a_no hr).elim
    · exact (a_no hr).elim
  | iastore =>
    obtain ⟨rfl, rfl, rfl⟩ := a_c1v hr
    simp only [a_wr] at h
    split at h
    · rename_i x j a r
      split at h
      · rename_i n0 f0 hM
        split at h
        · rename_i hin
          cases h
          obtain ⟨hlt, hat⟩ := hw.arr hM (by decide)
          refine W.iast hx hb hat ((hK.2 0 _ rfl).1 n0 (fun j => .int (f0 j))) (fun q => by cases q) (by show ¬ (j < 0 ∨ (arrV _ _ _).slots.size ≤ _); rw [arrV_size]; exact a_vinv hin) rfl rfl hd fun H1 e z oq => ?_
          refine k H1 _ (hw.up (by rw [hM]; rfl) z ?_ oq) (hS.put z oq (by omega))
          show H1[b + a]? = some (vp_cell _ _)
          rw [e]
          show some ((arrV (tc 0) n0 (fun q => .int (f0 q))).setSlot j.toNatClampNeg (.int x)) = some (arrV (tc 0) n0 (fun q => .int (upd f0 j.toNatClampNeg x q)))
          rw [arrV_store]
          congr 2
          funext q
          by_cases hq : q = j.toNatClampNeg
          · subst hq
            simp [updV, upd]
          · simp [updV, upd, hq]
        · exact (a_no h).elim
      · exact (a_no h).elim
    · exact (a_no h).elim
  | castore =>
    obtain ⟨rfl, rfl, rfl⟩ := a_c1v hr
    simp only [a_wr] at h
    split at h
    · rename_i x j a r
      split at h
      · rename_i n0 f0 hM
        split at h
        · rename_i hin
          cases h
          obtain ⟨hlt, hat⟩ := hw.arr hM (by decide)
          refine W.cast hx hb hat ((hK.2 1 _ rfl).1 n0 (fun j => .int (f0 j))) (fun q => by cases q) (by show ¬ (j < 0 ∨ (arrV _ _ _).slots.size ≤ _); rw [arrV_size]; exact a_vinv hin) rfl rfl hd fun H1 e z oq => ?_
          refine k H1 _ (hw.up (by rw [hM]; rfl) z ?_ oq) (hS.put z oq (by omega))
          show H1[b + a]? = some (vp_cell _ _)
          rw [e]
          show some ((arrV (tc 1) n0 (fun q => .int (f0 q))).setSlot j.toNatClampNeg (narrow .char (.int x))) = some (arrV (tc 1) n0 (fun q => .int (upd f0 j.toNatClampNeg (vp_nar .char x) q)))
          rw [arrV_store]
          congr 2
          funext q
          by_cases hq : q = j.toNatClampNeg
          · subst hq
            simp [updV, upd, vp_nar]
            try rfl
          · simp [updV, upd, hq]
        · exact (a_no h).elim
      · exact (a_no h).elim
    · exact (a_no h).elim
  | lastore =>
    obtain ⟨rfl, rfl, rfl⟩ := a_c1v hr
    simp only [a_wr] at h
    split at h
    · rename_i x j a r
      split at h
      · rename_i n0 f0 hM
        split at h
        · rename_i hin
          cases h
          obtain ⟨hlt, hat⟩ := hw.arr hM (by decide)
          refine W.last hx hb hat ((hK.2 2 _ rfl).1 n0 (fun j => .long (f0 j))) (fun q => by cases q) (by show ¬ (j < 0 ∨ (arrV _ _ _).slots.size ≤ _); rw [arrV_size]; exact a_vinv hin) rfl rfl hd fun H1 e z oq => ?_
          refine k H1 _ (hw.up (by rw [hM]; rfl) z ?_ oq) (hS.put z oq (by omega))
          show H1[b + a]? = some (vp_cell _ _)
          rw [e]
          show some ((arrV (tc 2) n0 (fun q => .long (f0 q))).setSlot j.toNatClampNeg (.long x)) = some (arrV (tc 2) n0 (fun q => .long (vp_updL f0 j.toNatClampNeg x q)))
          rw [arrV_store]
          congr 2
          funext q
          by_cases hq : q = j.toNatClampNeg
          · subst hq
            simp [updV, vp_updL]
          · simp [updV, vp_updL, hq]
        · exact (a_no h).elim
      · exact (a_no h).elim
    · exact (a_no h).elim
  | aastore =>
    obtain ⟨rfl, rfl, rfl⟩ := a_c1v hr
    simp only [a_wr] at h
    split at h
    · rename_i v j a r
      split at h
      · rename_i vs n0 f0 hV hM
        split at h
        · rename_i hin
          cases h
          obtain ⟨hlt, hat⟩ := hw.arr hM (by decide)
          obtain ⟨hlv, hav⟩ := hw.obj hV (by decide)
          obtain ⟨r', hr', cellV, g1, g2, g3, -⟩ := hav
          obtain rfl : (RX4, TX4, 6) = r' := Option.some.inj hr'
          have hcls := (hK.1 4 (RX4, TX4, 6) rfl).2
          obtain ⟨kA, comp, k1, k2, k3, -⟩ := (hK.2 3 _ rfl).2
          have hcomp : comp = D.1 4 := Option.some.inj (k3.symm.trans hcls.1)
          subst hcomp
          obtain ⟨kC, hkC, -⟩ := hcls.2
          have hin1 := a_vinv hin
          have hj0 : ¬ j < 0 := fun q => hin1 (Or.inl q)
          have hj1 : j.toNatClampNeg < n0 := Nat.not_le.mp fun q => hin1 (Or.inr q)
          refine W.aast hx hb hat (fun q h => by cases h) (fun h => by cases h) k1 k2 rfl hkC ⟨hj0, by show _ < (arrV _ _ _).slots.size; rw [arrV_size]; exact hj1⟩ g1 (fun q h => by rw [g3] at h; cases h) (by rw [g2]; exact hkC) (by rw [g2]; exact va_assign hcls) rfl rfl hd fun H1 e z oq => ?_
          refine k H1 _ (hw.up (by rw [hM]; rfl) z ?_ oq) (hS.put z oq (by omega))
          show H1[b + a]? = some (vp_cell _ _)
          rw [e]
          show some ((arrV (tc 3) n0 (fun q => va_rf ((f0 q).map (b + ·)))).setSlot j.toNatClampNeg (.ref (b + v))) = some (arrV (tc 3) n0 (fun q => va_rf ((va_up f0 j.toNatClampNeg (some v) q).map (b + ·))))
          rw [arrV_store]
          congr 2
          funext q
          by_cases hq : q = j.toNatClampNeg
          · subst hq
            simp [updV, va_up, va_rf]
          · simp [updV, va_up, hq]
        · exact (a_no h).elim
      · exact (a_no h).elim
    · exact (a_no h).elim
  | _ =>
    first
      | exact (a_no hr).elim
      | (obtain ⟨rfl, rfl, rfl⟩ := a_c1v hr; exact (a_no h).elim)
      | (simp only [a_rsv, a_tg] at hr; (repeat' split at hr) <;> first | exact (a_no hr).elim | (cases hr; exact (a_no h).elim) | (obtain ⟨rfl, rfl, rfl⟩ := a_c1v hr; exact (a_no h).elim))
end

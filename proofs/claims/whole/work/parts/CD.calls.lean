/-! the calls as steps of the whole state -/
def okA (N : Nat) (Y : mY) : Prop := okY Y ∧ okEZ (yZ Y) ∧ okR N Y ∧ (yZ Y).2.2.1.length ≤ 20
/-- both do it alike -/
def STEP (G : mG) (x m N : Nat) (f g : mV → Option (mV × Int)) (Y : mY) : Prop := ∃ Y' a, CL G x m f Y Y' a ∧ RF m g Y Y' a ∧ okA (N + 1) Y' ∧ rg a
section
variable {G : mG} {V V' : mV} {x m N : Nat} {Y : mY}
theorem rZ_T {Z : mZ} (h : rZ V m Z) (k : rT m V V') : rZ V' m Z := by
  obtain ⟨a, b, ⟨c1, c2, c3, c4⟩, d, d5⟩ := h
  refine ⟨a.fr k.cs, by rw [k.1]; exact b, ⟨by rw [k.2.1 m 69 (by omega)]; exact c1, c2, by rw [k.2.1 m 70 (by omega)]; exact c3, fun i hi => ?_⟩, fun j p q => by rw [k.1]; exact d j p q, by rw [k.2.1 m 61 (by omega)]; exact d5⟩
  rw [k.2.1 m 70 (by omega), k.1]; exact c4 i hi
theorem RF_T {f : mV → Option (mV × Int)} {a : Int} (h : ∀ V, rY V m Y → ∃ V', f V = some (V', a) ∧ rT m V V') : RF m f Y Y a :=
  RF_E (Z' := yZ Y) (fun V hv => by
    obtain ⟨V', e, k⟩ := h V hv
    exact ⟨V', e, k.H.Q.out, rZ_T hv.1 k⟩)
theorem RF_Q {f : mV → Option (mV × Int)} {a : Int} (h : ∀ V, rY V m Y → ∃ V', f V = some (V', a) ∧ rQ m V V' ∧ rZ V' m (yZ Y)) : RF m f Y Y a :=
  RF_E (Z' := yZ Y) (fun V hv => by
    obtain ⟨V', e, k, z⟩ := h V hv
    exact ⟨V', e, k.out, z⟩)
theorem CL_Q {f : mV → Option (mV × Int)} {a : Int} (hm : m = x + 327) (h : ∀ V, vY G V x Y → ∃ V', f V = some (V', a) ∧ fr (zE G x) V V' ∧ vZ G V' x (yZ Y)) : CL G x m f Y Y a := CL_E (Z' := yZ Y) hm h
theorem okA_s (h : okA N Y) : okA (N + 1) Y := ⟨h.1, h.2.1, fun k => ⟨(h.2.2.1 k).1, by have := (h.2.2.1 k).2; omega⟩, h.2.2.2⟩
theorem okA_new {M : mMo} (h : okA N Y) (hM : okM (cn (yZ Y).1) M) (hE : okE M) : okA (N + 1) (((yZ Y).1, M, ((yZ Y).2.1 :: (yZ Y).2.2.1).take 20, (yZ Y).2.2.2), Y.2) := by
  obtain ⟨⟨a1, a2, a3, a4, a5, a6, a7⟩, b, c, d⟩ := h
  refine ⟨⟨okZ_new a1 hM, a2, a3, a4, a5, a6, a7⟩, okEZ_new b hE, fun k => ⟨(c k).1, by have := (c k).2; show (yZ Y).2.2.2 k ≤ _; omega⟩, ?_⟩
  show (((yZ Y).2.1 :: (yZ Y).2.2.1).take 20).length ≤ 20
  rw [List.length_take]; omega
theorem okA_ref {k : Int} (h : okA N Y) : okA (N + 1) (refZ (yZ Y) k, Y.2) := by
  obtain ⟨⟨a1, a2, a3, a4, a5, a6, a7⟩, b, c, d⟩ := h
  refine ⟨⟨okZ_ref a1, a2, a3, a4, a5, a6, a7⟩, b, fun j => ?_, d⟩
  show 0 ≤ uf (yZ Y).2.2.2 k ((yZ Y).2.2.2 k + 1) j ∧ uf (yZ Y).2.2.2 k ((yZ Y).2.2.2 k + 1) j ≤ _
  unfold uf
  have h1 := c k
  have h2 := c j
  split <;> omega
theorem S_has {k : Int} (hG : is9 G x) (hm : m = x + 327) (h : okA N Y) (hk : rg k) : STEP G x m N (F_X9_has G x k) (F_X10_has G m k) Y :=
  ⟨Y, _, CL_0 (fun V hv => c_has hG h.1.1 hv.1 hk), RF_0 (fun V hv => r_hasA h.1.1 hv.1 hk), okA_s h, rg_has h.1.1 h.2.2.2⟩
theorem S_letter {a b c : Int} (hG : is9 G x) (h : okA N Y) (h1 : rg a) (h2 : rg b) (h3 : rg c) : STEP G x m N (F_X9_letter G x a b c) (F_X10_letter G m a b c) Y :=
  ⟨Y, _, CL_0 (fun V hv => c_letter hG h.1.1 h.1.2.1 hv.1 h1 h2 h3), RF_0 (fun V hv => r_letter h.1.2.1 hv.1.1 h1 h2 h3), okA_s h, rg_let h.1.2.1⟩
theorem S_person {a b : Int} (hG : is9 G x) (h : okA N Y) (h1 : rg a) (h2 : rg b) : STEP G x m N (F_X9_person G x a b) (F_X10_person G m a b) Y :=
  ⟨Y, _, CL_0 (fun V hv => c_person hG h.1.1 hv.1 h1 h2), RF_0 (fun V hv => r_person h.1.1 hv.1 h1 h2), okA_s h, rg_person h.1.1⟩
theorem S_points {a b : Int} (hG : is9 G x) (h : okA N Y) (h1 : rg a) (h2 : rg b) : STEP G x m N (F_X9_points G x a b) (F_X10_points G m a b) Y :=
  ⟨Y, _, CL_0 (fun V hv => c_points hG h.1.1 hv.1 h1 h2), RF_0 (fun V hv => r_points h.1.1 hv.1 h1 h2), okA_s h, rg_points h.1.1⟩
theorem able_01 {C : mCy} (ho : okC C) {pts own task clock day : Int} (hown : own = 0 ∨ own = 1) (ht : 0 ≤ task ∧ task < ct C) (hp : 0 ≤ pts ∧ pts ≤ 99) (hc : 0 ≤ clock ∧ clock ≤ 10000) (hd : 0 ≤ day ∧ day ≤ 10000) : able C pts own task clock day = 0 ∨ able C pts own task clock day = 1 := by
  have hh := ho.2.2.2.2.1 task ht.1 ht.2
  unfold able
  by_cases e : co C 2 = []
  · rw [if_pos e]; exact Or.inr rfl
  · rw [if_neg e]
    rcases ho.2.2.2.2.2.2.2.2.2.2.2.1 with q | ⟨q1, q2⟩
    · exact absurd q e
    · refine (okc_tell (ka := k0) (fa := fct clock day pts 0 (ch C task) own 0) (fb := fct clock day pts 0 (ch C task) own 0) q1 q2 ⟨fun k => ?_, fun _ => (by decide : (-1000000 : Int) ≤ 0 ∧ (0 : Int) ≤ 1000000)⟩ (fun _ _ => rfl)).2.2 rfl
      unfold fct
      (repeat' split) <;> exact ⟨by omega, by omega⟩
theorem S_could {a b c d : Int} (hG : is9 G x) (hm : m = x + 327) (h : okA N Y) (h1 : rg a) (h2 : rg b) (h3 : rg c) (h4 : rg d) : STEP G x m N (F_X9_could G x a b c d) (F_X10_could G m a b c d) Y := by
  refine ⟨Y, _, CL_Q hm (fun V hv => c_could hG h.1.1 hv.1 h1 h2 h3 h4), RF_T (fun V hv => r_could h.1.1 hv.1 h1 h2 h3 h4), okA_s h, ?_⟩
  have hh := h.1.1.2.1.1
  unfold aCould
  by_cases q : ((0 ≤ a ∧ a < cn (yZ Y).1) ∧ (0 ≤ b ∧ b < cn (yZ Y).1)) ∧ (0 ≤ c ∧ c < ct (yZ Y).1) ∧ (0 ≤ d ∧ d < 24)
  · rw [if_pos q]
    have hpt := h.1.1.2.1.2.2.2.2.1 a b q.1.1.1 q.1.1.2 q.1.2.1 q.1.2.2
    have := able_01 h.1.1.1 (pts := mp (yZ Y).2.1 a b) (own := if a = b then 1 else 0) (task := c) (clock := d) (day := mh (yZ Y).2.1 / 24) (by split <;> simp) q.2.1 hpt ⟨by omega, by omega⟩ ⟨by omega, by omega⟩
    have e : canD (yZ Y).1 (yZ Y).2.1 a b c d = 0 ∨ canD (yZ Y).1 (yZ Y).2.1 a b c d = 1 := this
    exact ⟨by omega, by omega⟩
  · rw [if_neg q]; exact ⟨by decide, by decide⟩
theorem S_kept {a b : Int} (hG : is9 G x) (h : okA N Y) (h1 : rg a) (h2 : rg b) : STEP G x m N (F_X9_kept G x a b) (F_X10_kept G m a b) Y :=
  ⟨Y, _, CL_0 (fun V hv => c_kept hG h.1.1 hv.1 h1 h2), RF_0 (fun V hv => r_keptA h.1.1 hv.1 h1 h2), okA_s h, rg_kept h.2.1⟩
theorem S_wave {a b : Int} (hG : is9 G x) (hm : m = x + 327) (h : okA N Y) (h1 : rg a) (h2 : rg b) : STEP G x m N (F_X9_wave G x a b) (F_X10_wave G m a b) Y :=
  ⟨Y, _, CL_Q hm (fun V hv => c_wave hG h.1.1 hv.1 h1 h2), RF_Q (fun V hv => r_wave h.1.1 hv.1 h1 h2), okA_s h, rg_wave h.1.1⟩
theorem S_would {a b : Int} (hG : is9 G x) (hm : m = x + 327) (h : okA N Y) (h1 : rg a) (h2 : rg b) : STEP G x m N (F_X9_would G x a b) (F_X10_would G m a b) Y :=
  ⟨Y, _, CL_Q hm (fun V hv => c_would hG h.1.1 hv.1 h1 h2), RF_Q (fun V hv => r_would h.1.1 hv.1 h1 h2), okA_s h, rg_would h.1.1⟩
theorem S_first {a : Int} (hG : is9 G x) (hm : m = x + 327) (h : okA N Y) (h1 : rg a) : STEP G x m N (F_X9_first G x a) (F_X10_first G m a) Y :=
  ⟨Y, _, CL_Q hm (fun V hv => c_fstZ hG h.1.1 hv.1 h1), RF_Q (fun V hv => r_fstZ h.1.1 hv.1 h1), okA_s h, rg_first h.1.1⟩
theorem S_best {a b : Int} (hG : is9 G x) (hm : m = x + 327) (h : okA N Y) (h1 : rg a) (h2 : rg b) : STEP G x m N (F_X9_best G x a b) (F_X10_best G m a b) Y :=
  ⟨Y, _, CL_Q hm (fun V hv => c_best hG h.1.1 hv.1 h1 h2), RF_T (fun V hv => r_best h.1.1 hv.1 h1 h2), okA_s h, rg_best h.1.1⟩
theorem S_study {a b : Int} (hG : is9 G x) (hm : m = x + 327) (h : okA N Y) (h1 : rg a) (h2 : rg b) : STEP G x m N (F_X9_study G x a b) (F_X10_study G m a b) Y :=
  ⟨Y, _, CL_Q hm (fun V hv => c_study hG h.1.1 hv.1 h1 h2), RF_T (fun V hv => r_study h.1.1 hv.1 h1 h2), okA_s h, rg_study⟩
theorem S_change {a : Int} (hG : is9 G x) (hm : m = x + 327) (h : okA N Y) (h1 : rg a) : STEP G x m N (F_X9_change G x a) (F_X10_change G m a) Y := by
  refine ⟨Y, _, ?_, RF_Q (fun V hv => r_change h.1.1 hv.1 h1), okA_s h, rg_change h.1.1⟩
  intro V hv
  obtain ⟨V', e, k, z, l⟩ := c_change hG h.1.1 hv.1 hv.2.2.2.2.2.2.2.1 h1
  have ha := hv.1.1
  refine ⟨V', e, fun i hi => ?_, ?_⟩
  · obtain ⟨k1, k2⟩ := k.2.2 i (fun q => by simp only [zE] at q; omega)
    exact ⟨k1, k2, by rw [k.1], by rw [k.2.1]⟩
  · -- as if the changer's cells had stood
    obtain ⟨W, hW⟩ : ∃ W : mV, W = ((fun i => if x + 38 ≤ i ∧ i ≤ x + 44 then V.1 i else V'.1 i), V'.2.1, (fun i => if x + 38 ≤ i ∧ i ≤ x + 44 then V.2.2.1 i else V'.2.2.1 i), V'.2.2.2) := ⟨_, rfl⟩
    have iW : ∀ i, gI W i = if x + 38 ≤ i ∧ i ≤ x + 44 then gI V i else gI V' i := fun i => by rw [hW]; funext k; show (if x + 38 ≤ i ∧ i ≤ x + 44 then V.1 i else V'.1 i) k = _; split <;> rfl
    have aW : ∀ i, gA W i = if x + 38 ≤ i ∧ i ≤ x + 44 then gA V i else gA V' i := fun i => by rw [hW]; funext k; show (if x + 38 ≤ i ∧ i ≤ x + 44 then V.2.2.1 i else V'.2.2.1 i) k = _; split <;> rfl
    have kVW : ∀ i, ¬ zE G x i → gI W i = gI V i ∧ gA W i = gA V i := by
      intro i hi
      rw [iW, aW]
      split
      · exact ⟨rfl, rfl⟩
      · next q => exact k.2.2 i (fun z => z.elim hi q)
    have kVW' : fr (fun i => x + 38 ≤ i ∧ i ≤ x + 44) W V' := ⟨by rw [hW]; rfl, by rw [hW]; rfl, fun i hi => by rw [iW, aW, if_neg hi, if_neg hi]; exact ⟨rfl, rfl⟩⟩
    have kWV' : fr (fun i => x + 38 ≤ i ∧ i ≤ x + 44) V' W := ⟨by rw [hW]; rfl, by rw [hW]; rfl, fun i hi => by rw [iW, aW, if_neg hi, if_neg hi]; exact ⟨rfl, rfl⟩⟩
    have zW : vZ G W x (yZ Y) := by
      obtain ⟨a, b, c, d, ⟨e0, f⟩, g, i, j⟩ := z
      exact ⟨a, b.fr kWV' (fun j p q _ => by omega), c.fr kWV' (fun j p q => by omega), d.fr kWV' (by omega) (by omega), ⟨e0, f.fr kWV' (fun j p q => by omega)⟩, by rw [kWV'.I (by omega)]; exact g, i.fr kWV' (fun j p q => by omega), j.fr kWV' (by omega) (by omega)⟩
    have yW : vY G W x Y := vY_of hv rfl rfl rfl rfl (by rw [hW]; show gJ V' x 13 = _; rw [k.1]; exact hv.2.2.2.2.2.2.1) kVW zW
    obtain ⟨-, ⟨b1, b2⟩, c, ⟨d1, d2⟩, e', ⟨f1, f2⟩, g, -, ⟨⟨z1, z2, z3, z4, z5⟩, j2, j3, j4⟩⟩ := yW
    have rzo : ∀ {r : Nat}, rz G W r → ¬ (x + 38 ≤ r ∧ r ≤ x + 44) → rz G V' r := by
      intro r hr h1
      unfold rz at hr ⊢
      rw [kVW'.I h1]; exact hr
    exact ⟨z, ⟨b1, b2.fr (fun q q0 q1 => (kVW'.2.2 q (by rcases b1 with w | w <;> omega)).1)⟩, c.fr kVW' (by omega) (by omega), ⟨by rw [kVW'.I (by omega)]; exact d1, by rw [kVW'.I (by omega)]; exact d2⟩, e'.fr kVW' (by omega) (by omega), ⟨f1.fr kVW' (by omega) (by omega), fun q => by rw [kVW'.I (by omega)]; exact f2 q⟩, by rw [kVW'.1]; exact g, l, ⟨⟨rzo z1 (by omega), rzo z2 (by omega), rzo z3 (by omega), rzo z4 (by omega), rzo z5 (by omega)⟩, j2.fr kVW' (by omega) (by omega), rzo j3 (by omega), by rw [kVW'.I (by omega)]; exact j4⟩⟩
theorem S_ring {a : Int} (hG : is9 G x) (h : okA N Y) (h1 : rg a) : STEP G x m N (F_X9_ring G x a) (F_X10_ring G m a) Y :=
  ⟨Y, _, CL_0 (fun V hv => c_ring hG h.1.1 hv.1 h1), RF_0 (fun V hv => r_ring h.1.1 hv.1 h1), okA_s h, rg_ring⟩
theorem S_odds {a b c : Int} (hG : is9 G x) (hm : m = x + 327) (h : okA N Y) (h1 : rg a) (h2 : rg b) (h3 : rg c) : STEP G x m N (F_X9_odds G x a b c) (F_X10_odds G m a b c) Y :=
  ⟨Y, _, CL_Q hm (fun V hv => c_odds hG h.1.1 hv.1 h1 h2 h3), RF_Q (fun V hv => r_odds h.1.1 hv.1 h1 h2 h3), okA_s h, rg_odds h.1.1⟩
theorem S_go {a : Int} (hG : is9 G x) (hm : m = x + 327) (h : okA N Y) (h1 : rg a) : STEP G x m N (F_X9_go G x a) (F_X10_go G m a) Y := by
  have hh := h.1.1.2.1.1
  refine ⟨(goZ (yZ Y) a, Y.2), _, CL_E hm (fun V hv => ?_), RF_E (fun V hv => r_go h.1.1 hv.1 h1), ?_, rg_go h.1.1⟩
  · obtain ⟨V', e, k, z, -⟩ := c_go hG h.1.1 hv.1 h1
    exact ⟨V', e, k, z⟩
  · unfold goZ
    split
    · next q => exact okA_new h (okM_hours h.1.1.1 _ (s0 (yZ Y).2.1) h.1.1.2.1 (by show mh (yZ Y).2.1 + _ ≤ 9999; omega)) (okE_hours h.1.1.1 h.2.1.1 hh.1 (by omega))
    · exact okA_ref h
theorem S_call {a : Int} (hG : is9 G x) (hm : m = x + 327) (h : okA N Y) (h1 : rg a) : STEP G x m N (F_X9_call G x a) (F_X10_call G m a) Y := by
  refine ⟨(callZ (yZ Y) a, Y.2), _, CL_E hm (fun V hv => c_call hG h.1.1 hv.1 h1), RF_E (fun V hv => r_call h.1.1 hv.1 h1), ?_, rg_call⟩
  unfold callZ
  split
  · next q => exact okA_new h (okM_cal h.1.1.1 h.1.1.2.1 q.1 q.2) h.2.1.1
  · exact okA_ref h
theorem S_watch {a b : Int} (hG : is9 G x) (hm : m = x + 327) (h : okA N Y) (h1 : rg a) (h2 : rg b) : STEP G x m N (F_X9_watch G x a b) (F_X10_watch G m a b) Y := by
  refine ⟨(watchZ (yZ Y) a b, Y.2), _, CL_E hm (fun V hv => c_watch' hG h.1.1 hv.1 h1 h2), RF_E (fun V hv => r_watch' h.1.1 hv.1 h1 h2), ?_, rg_watch⟩
  unfold watchZ
  split
  · next q => exact okA_new h (okM_W h.1.1.2.1 q.1.2.1 q.1.2.2) h.2.1.1
  · exact okA_ref h
theorem S_teach {a b c : Int} (hG : is9 G x) (hm : m = x + 327) (h : okA N Y) (h1 : rg a) (h2 : rg b) (h3 : rg c) : STEP G x m N (F_X9_teach G x a b c) (F_X10_teach G m a b c) Y := by
  refine ⟨(teachZ (yZ Y) a b c, Y.2), _, CL_E hm (fun V hv => c_teach hG h.1.1 hv.1 h1 h2 h3), RF_E (fun V hv => r_teach h.1.1 hv.1 h1 h2 h3), ?_, rg_teach h.1.1⟩
  unfold teachZ
  split
  · next q => exact okA_new h (okM_T h.1.1.2.1 q.1.2.2 q.2) h.2.1.1
  · exact okA_ref h
theorem S_undo (hG : is9 G x) (hm : m = x + 327) (h : okA N Y) : STEP G x m N (F_X9_undo G x) (F_X10_undo G m) Y := by
  refine ⟨(undoZ (yZ Y), Y.2), _, CL_E hm (fun V hv => c_undo hG h.1.1 hv.1), RF_E (fun V hv => r_undoZ h.1.1 hv.1), ?_, rg_undo⟩
  obtain ⟨⟨C, M, P, R⟩, Y2⟩ := Y
  cases P with
  | nil => exact okA_ref (Y := ((C, M, [], R), Y2)) h
  | cons Q P =>
    obtain ⟨⟨a1, a2, a3, a4, a5, a6, a7⟩, b, c, d⟩ := h
    refine ⟨⟨okZ_undo a1, a2, a3, a4, a5, a6, a7⟩, okEZ_undo b, fun k => ⟨(c k).1, ?_⟩, ?_⟩
    · have := (c k).2
      show R k ≤ _
      have e : (yZ ((C, M, Q :: P, R), Y2)).2.2.2 k = R k := rfl
      omega
    · have d' : (Q :: P).length ≤ 20 := d
      rw [List.length_cons] at d'
      show P.length ≤ 20
      omega
theorem S_bells {a : Int} (hG : is9 G x) (hm : m = x + 327) (h : okA N Y) (h1 : rg a) : STEP G x m N (F_X9_bells G x a) (F_X10_bells G m a) Y := by
  have hE := h.1.2.2.2.2.2.2
  refine ⟨((bellsZ (yZ Y) (yE Y) a).1, yT Y, yF Y, yI Y, yS Y, (bellsZ (yZ Y) (yE Y) a).2), aBells (yZ Y) (yE Y) a, fun V hv => ?_, fun V hv => ?_, ?_, ?_⟩
  · obtain ⟨V', e, k, s, z, -⟩ := c_bells hG h.1.1 hv.1 (s := yE Y) hv.2.2.2.2.2.2.1 h1
    have ha := hv.1.1
    refine ⟨V', e, fun i hi => ?_, vY_of hv rfl rfl rfl rfl s k.2.2 z⟩
    obtain ⟨k1, k2⟩ := k.2.2 i (fun q => by simp only [zE] at q; omega)
    exact ⟨k1, k2, by funext j; exact k.1 i j (by omega), by rw [k.2.1]⟩
  · obtain ⟨V', e, k, s, z⟩ := r_bells (G := G) h.1.1 hv.1 (s := yE Y) hv.2.2.2.2.2.1 hE h1
    exact ⟨V', e, k.lo, rY_of hv rfl rfl rfl rfl s k z⟩
  · have hh := h.1.1.2.1.1
    unfold bellsZ
    by_cases c : canB (yZ Y) a
    · rw [if_pos c]
      have base := okA_new (M := (bellsM (yZ Y).1 a.toNat ((yZ Y).2.1, yE Y)).1) h ?_ (okE_bells h.1.1.1 _ h.2.1.1 hh.1 (by show mh (yZ Y).2.1 + till (mh (yZ Y).2.1) + _ - 12 ≤ 9999; omega))
      · obtain ⟨⟨a1, a2, a3, a4, a5, a6, a7⟩, b, c', d⟩ := base
        exact ⟨⟨a1, a2, a3, a4, a5, a6, bells_s (C := (yZ Y).1) a.toNat (y := ((yZ Y).2.1, yE Y)) hE⟩, b, c', d⟩
      · -- the moment stands
        have key : ∀ (k : Nat) (y : mMo × Int), okM (cn (yZ Y).1) y.1 → mh y.1 + till (mh y.1) + 24 * (k : Int) - 12 ≤ 9999 → okM (cn (yZ Y).1) (bellsM (yZ Y).1 k y).1 := by
          intro k
          induction k with
          | zero => intro y hy _; exact hy
          | succ k ih =>
            intro y hy hb
            have ht := till_rg (mh y.1)
            have hy0 := hy.1
            refine ih (bellM (yZ Y).1 y) ?_ ?_
            · refine okM_hours h.1.1.1 12 _ (rng_ok h.1.1.1 (okM_hours h.1.1.1 _ (s0 y.1) hy (by show mh y.1 + _ ≤ 9999; omega))) ?_
              show mh (rngM (yZ Y).1 (hoursS (yZ Y).1 (till (mh y.1)).toNat (s0 y.1)).1 y.2).1 + ((12 : Nat) : Int) ≤ 9999
              rw [rng_mh, mh_hours]; show mh y.1 + (((till (mh y.1)).toNat : Nat) : Int) + ((12 : Nat) : Int) ≤ 9999; omega
            · rw [bell_mh]
              have : till (mh y.1 + till (mh y.1) + 12) = 12 := by unfold till; omega
              rw [this]; omega
        exact key a.toNat ((yZ Y).2.1, yE Y) h.1.1.2.1 (by show mh (yZ Y).2.1 + till (mh (yZ Y).2.1) + _ - 12 ≤ 9999; omega)
    · rw [if_neg c]
      obtain ⟨⟨a1, a2, a3, a4, a5, a6, a7⟩, b, c', d⟩ := okA_ref (k := 2) h
      exact ⟨⟨a1, a2, a3, a4, a5, a6, hE⟩, b, c', d⟩
  · unfold aBells
    by_cases c : canB (yZ Y) a
    · rw [if_pos c]
      have hh := h.1.1.2.1.1
      have key : ∀ (k : Nat) (y : mMo × Int), 0 ≤ mh y.1 → mh y.1 ≤ 9999 → mh y.1 + till (mh y.1) + 24 * (k : Int) - 12 ≤ 9999 → 0 ≤ mh (bellsM (yZ Y).1 k y).1 ∧ mh (bellsM (yZ Y).1 k y).1 ≤ 9999 := by
        intro k
        induction k with
        | zero => intro y h0 h1 _; exact ⟨h0, h1⟩
        | succ k ih =>
          intro y h0 h1 hb
          have ht := till_rg (mh y.1)
          refine ih (bellM (yZ Y).1 y) ?_ ?_ ?_
          · rw [bell_mh]; omega
          · rw [bell_mh]; omega
          · rw [bell_mh]
            have : till (mh y.1 + till (mh y.1) + 12) = 12 := by unfold till; omega
            rw [this]; omega
      have := key a.toNat ((yZ Y).2.1, yE Y) hh.1 hh.2 (by show mh (yZ Y).2.1 + till (mh (yZ Y).2.1) + _ - 12 ≤ 9999; omega)
      exact ⟨by omega, by omega⟩
    · rw [if_neg c]; exact ⟨by decide, by decide⟩
end

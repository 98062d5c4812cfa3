/-! THE CLAIM OUT OF ONE WALK OF THE LAW'S BODY. Your part is whole_start (and what it stands on); all else here is the same for every law, but numbers. -/
def R_law : String := "NoonBellLaw"
def lw_P (b : Addr) (xs : List Int32) (args : Array Value) (s : State) : Prop := args = #[.ref b] ∧ s.IntsAt b xs ∧ xs.length ≤ 3072 ∧ (Jvm.Cond.and given_1 narrow_1).before args s = true
def lw_Q (_ : Array Value) (s : State) (o : Outcome) (t : State) : Prop := o = .returned (some (.int 1)) ∧ Framed s o t [] 600000 7302250
def lw_Z (below : List Frame) (a : Array Value) (s : State) : State → Prop := fun t => ∃ o, t.status = .running ∧ Ended t below o ∧ lw_Q a s o t
/-- the law's own end, with 1 on the stack, nothing written that was there before, its room as the claim has it -/
theorem lw_ret {p : Program} {l : Launch} {e : Env} {s : State} {m : MethodId} {below : List Frame} {meth : Method} {c : Code} {b : Nat} (hx : p.tables.exec = Jvm.exec) (hb : c.code = code) (hr : meth.sig.returnType = ret) (hlocks : meth.locks = false) {pc : Nat} {H : Heap} {ls : Array Slot} (hdg : decode code pc = .ok (.ireturn, 1)) : W p l e room_1 s m #[Value.ref b] below meth c H [] 600000 7302250 (lw_Z below #[Value.ref b] s) (F0 m pc ls [.int 1]) := by
  intro T hT X
  obtain ⟨fs, hret, hrun, hended, hW, hframe⟩ := X.leave (v := some (.int 1)) (hlocks := hlocks) (fun h => by rw [hr] at h; cases h)
  have hmeth' : T.vm.method? m = some meth := X.method'
  refine ⟨T.setFrames fs, ?_, .returned (some (.int 1)), hrun, hended, rfl, ⟨_, rfl⟩, hW, hframe⟩
  jvm_step X.here [X.here.top, hx, hb, hdg, hmeth', hr, ret, narrow_b1]
  (try refine ⟨rfl, ?_⟩); (try refine ⟨rfl, ?_⟩)
  first | (intro acts; rw [hret _ acts rfl rfl rfl]) | rw [hret _ _ rfl rfl rfl]
  exact Steps.refl _
/-- what holds at the law's entry: the machine, the code, the tables' words (any of lw_tbl by 'hts w (by decide +kernel)'), the script of L ints xs at the cell b, what the Statement gives of the start (any of its parts by flat_of_before) -/
def lw_At (p : Program) (s : State) (m : MethodId) (meth : Method) (c : Code) (b L : Nat) (xs : Nat → Int32) : Prop :=
  p.tables.exec = Jvm.exec ∧ c.code = code ∧ meth.sig.returnType = ret ∧ c.maxLocals = 4 ∧ s.vm.findClass R_law = some m.cls ∧ (∀ w ∈ lw_tbl, w.before #[Value.ref b] s = true) ∧ va_X b L xs s s.heap ∧ b < s.heap.size ∧ meth.locks = false ∧ (Jvm.Cond.and given_1 narrow_1).before #[Value.ref b] s = true
-- ===== the start, out of the small machine's run =====
def a_tm : Nat → Term := fun i => if i = 0 then .string "NoonBell$Reader" 49 else .string "NoonBell$Reader" 55
def a_fl1 : List Cond := flatC (Jvm.Cond.and given_1 narrow_1)
def a_fe (i j : Nat) : Cond := Cond.eq (.elem (.field (a_tm i) "java/lang/String" "value" "[B") (.int (Int32.ofNat j))) (.int ((a_byt.getD i []).getD j 0))
theorem a_fE0 : (a_fl1.drop 13).take 123 = (List.range 123).map (a_fe 0) := by decide +kernel
theorem a_fE1 : (a_fl1.drop 140).take 50 = (List.range 50).map (a_fe 1) := by decide +kernel
theorem a_fE : ∀ i, i < 2 → ∀ j, j < a_len.getD i 0 → a_fe i j ∈ a_fl1 := by
  intro i hi j hj
  rcases (show i = 0 ∨ i = 1 by omega) with rfl | rfl
  · have h : a_fe 0 j ∈ (List.range 123).map (a_fe 0) := List.mem_map.mpr ⟨j, List.mem_range.mpr hj, rfl⟩
    rw [← a_fE0] at h
    exact List.mem_of_mem_drop (List.mem_of_mem_take h)
  · have h : a_fe 1 j ∈ (List.range 50).map (a_fe 1) := List.mem_map.mpr ⟨j, List.mem_range.mpr hj, rfl⟩
    rw [← a_fE1] at h
    exact List.mem_of_mem_drop (List.mem_of_mem_take h)
theorem a_fX : ∀ i, i < 2 → Cond.exactly (a_tm i) "java/lang/String" ∈ a_fl1 ∧ Cond.eq (.field (a_tm i) "java/lang/String" "coder" "B") (.int 0) ∈ a_fl1 ∧ Cond.arrayOf (.field (a_tm i) "java/lang/String" "value" "[B") .byte ∈ a_fl1 ∧ Cond.eq (.length (.field (a_tm i) "java/lang/String" "value" "[B")) (.int (Int32.ofNat (a_len.getD i 0))) ∈ a_fl1 := by decide +kernel
theorem a_fN : Cond.not (Cond.eq (a_tm 0) (a_tm 1)) ∈ a_fl1 ∧ Cond.eq (.static "java/lang/String" "COMPACT_STRINGS" "Z") (.int 1) ∈ a_fl1 ∧ Cond.isRef (.static "jdk/internal/util/Preconditions" "SIOOBE_FORMATTER" "Ljava/util/function/BiFunction;") ∈ a_fl1 := by decide +kernel
theorem a_fT : Cond.stringRef RX6 49 a_s49 ∈ lw_tbl ∧ Cond.stringRef RX6 55 a_s55 ∈ lw_tbl ∧ Cond.laysStatic "java/lang/String" "COMPACT_STRINGS" "Z" ∈ lw_tbl ∧ Cond.laysStatic "jdk/internal/util/Preconditions" "SIOOBE_FORMATTER" "Ljava/util/function/BiFunction;" ∈ lw_tbl ∧ Cond.initialized "java/lang/String" ∈ lw_tbl ∧ Cond.initialized "jdk/internal/util/Preconditions" ∈ lw_tbl ∧ Cond.arrayOver (.object "NoonBell$Moment") ∈ lw_tbl := by decide +kernel
theorem a_fM : ∀ q ∈ a_ns, Cond.methodLinkNest q.1 q.2.1 q.2.2 RX9 ∈ lw_tbl := by decide +kernel
set_option maxHeartbeats 4000000 in
set_option maxRecDepth 100000 in
theorem whole_start {p : Program} {e : Env} {s : State} {m : MethodId} {below : List Frame} {meth : Method} {c : Code} (l : Launch) (hflags : l.flags = flags0) {b L : Nat} {xs : Nat → Int32} (hL : L ≤ 3072) (C0 : lw_At p s m meth c b L xs) : W p l e room_1 s m #[Value.ref b] below meth c s.heap [] 0 0 (lw_Z below #[Value.ref b] s) (entryFrame m ([Value.ref b] : List Value).toArray 4) := by
  obtain ⟨hx, hb, hr, hml, hown, hts, hX, hbl, hlocks, hgv⟩ := id C0
  have hfl : ∀ w ∈ a_fl1, w.before #[Value.ref b] s = true := flat_of_before _ hgv
  have hA : ∀ a : Nat, a < s.heap.size → ¬ (fun q : Nat => s.heap.size ≤ q) a := fun a h => Nat.not_le.mpr h
  have htw : ∀ w ∈ a_wl, w.before #[Value.ref b] s = true := fun w hw => hts w (List.mem_filter.mp hw).1
  obtain ⟨adK, adV, hE, hev⟩ := vk_Sof (args := #[Value.ref b]) (s := s) (N := 2) (tm := a_tm) (len := a_len) (byt := a_byt) (A := fun q : Nat => s.heap.size ≤ q) (by decide) (fun i hi => hfl _ (a_fX i hi).1) (fun i hi => hfl _ (a_fX i hi).2.1) (fun i hi => hfl _ (a_fX i hi).2.2.1) (fun i hi => hfl _ (a_fX i hi).2.2.2) (fun i hi j hj => hfl _ (a_fE i hi j hj)) (fun i j hi hj hij => by
    rcases (show (i = 0 ∧ j = 1) ∨ (i = 1 ∧ j = 0) by omega) with ⟨rfl, rfl⟩ | ⟨rfl, rfl⟩
    · exact Or.inl (hfl _ a_fN.1)
    · exact Or.inr (hfl _ a_fN.1)) hA
  have hz1 := va_Zof (A := fun q : Nat => s.heap.size ≤ q) (hts _ a_fT.2.2.1) (hts _ a_fT.2.2.2.2.1) (va_eqt (hfl _ a_fN.2.1)) hA
  have hz2 := va_Zqof (A := fun q : Nat => s.heap.size ≤ q) (hts _ a_fT.2.2.2.1) (hts _ a_fT.2.2.2.2.2.1) (hfl _ a_fN.2.2) hA
  obtain ⟨vio, hvio, hvz⟩ : ∃ v : Value, (v = .null ∨ ∃ a, v = .ref a) ∧ va_Z "jdk/internal/util/Preconditions" "SIOOBE_FORMATTER" "Ljava/util/function/BiFunction;" v (fun q : Nat => s.heap.size ≤ q) s s.heap := by
    rcases hz2 with h | ⟨t, h⟩
    · exact ⟨_, Or.inl rfl, h⟩
    · exact ⟨_, Or.inr ⟨t, rfl⟩, h⟩
  have hcls : ∀ ci : Nat, ∃ q : ClassId × (Nat → Nat), ∀ r, a_cl[ci]? = some r → u_Kn s r.1 r.2.1 r.2.2 q.1 q.2 := by
    intro ci
    cases hr0 : a_cl[ci]? with
    | none => exact ⟨(0, fun _ => 0), fun r h => by cases h⟩
    | some r =>
      obtain ⟨h1, h2, h3⟩ := a_inT hr0
      obtain ⟨cC, iS, hk⟩ := u_known (n := r.2.2) htw h1 (htw _ h2)
      exact ⟨(cC, iS), fun r' h => by cases h; exact hk⟩
  obtain ⟨F, hF⟩ := Classical.axiomOfChoice hcls
  obtain ⟨c0, k0, p0, g01, g02, g03⟩ := Cond.arrayClass_spec (type := .int) (htw _ (a_iE _ (by simp [a_Ew])))
  obtain ⟨c1, k1, p1, g11, g12, g13⟩ := Cond.arrayClass_spec (type := .char) (htw _ (a_iE _ (by simp [a_Ew])))
  obtain ⟨c2, k2, p2, g21, g22, g23⟩ := Cond.arrayClass_spec (type := .long) (htw _ (a_iE _ (by simp [a_Ew])))
  obtain ⟨p3, c3, k3, g31, -, g32, g33, g34⟩ := Cond.arrayOver_spec (hts _ a_fT.2.2.2.2.2.2)
  let D : va_G := (fun ci => (F ci).1, fun ci => (F ci).2)
  let tc : Nat → ClassId := fun k => if k = 0 then c0 else if k = 1 then c1 else if k = 2 then c2 else c3
  let sv : Nat → Value := fun k => if k = 0 then .ref b else if k = 1 then .ref (adK 0) else if k = 2 then .ref (adK 1) else if k = 11 then .ref (adV 0) else if k = 12 then .ref (adV 1) else if k = 20 then vio else .null
  have hK : va_K D a_cl (a_tys tc) s := by
    refine ⟨fun ci q hq => hF ci q hq, fun k q hq => ?_⟩
    match k, hq with
    | 0, hq => cases hq; exact ⟨fun n z => ⟨fun k h => (by cases h), k0, g02, p0, g03⟩, g01⟩
    | 1, hq => cases hq; exact ⟨fun n z => ⟨fun k h => (by cases h), k1, g12, p1, g13⟩, g11⟩
    | 2, hq => cases hq; exact ⟨fun n z => ⟨fun k h => (by cases h), k2, g22, p2, g23⟩, g21⟩
    | 3, hq => cases hq; exact ⟨fun n z => ⟨fun k h => (by cases h), k3, g32, p3, g33⟩, k3, p3, g32, g33, g31, g34⟩
    | k + 4, hq => simp [a_tys] at hq
  have hsv : a_svk sv := by
    intro k
    show (if k = 0 then Value.ref b else if k = 1 then .ref (adK 0) else if k = 2 then .ref (adK 1) else if k = 11 then .ref (adV 0) else if k = 12 then .ref (adV 1) else if k = 20 then vio else .null) = .null ∨ ∃ a, (if k = 0 then Value.ref b else if k = 1 then .ref (adK 0) else if k = 2 then .ref (adK 1) else if k = 11 then .ref (adV 0) else if k = 12 then .ref (adV 1) else if k = 20 then vio else .null) = .ref a
    repeat' split
    all_goals first | exact Or.inr ⟨_, rfl⟩ | exact hvio | exact Or.inl rfl
  have hout : a_out sv s.heap.size (some (L, xs)) s s.heap := ⟨⟨b, rfl, hbl, fun x hx => by cases hx; exact hX⟩, ⟨adK, adV, hE, ⟨rfl, rfl, rfl, rfl⟩, vk_R.of (hts _ a_fT.1) (hev 0 (by decide)), vk_R.of (hts _ a_fT.2.1) (hev 1 (by decide))⟩, hz1, hvz, fun q hq => va_Nw.of rfl (hts _ (a_fM q hq)), va_AO.of (hts _ a_fT.2.2.2.2.2.2)⟩
  obtain ⟨f, d, r, hrun, hans, hc1, hc2, hd⟩ := a_goal L xs hL
  have hmt : a_mt[303]? = some (yL_law, cL_law, 4, some .boolean, 13) := by rfl
  obtain ⟨he1, he2⟩ := a_entry (sv := sv) (b := s.heap.size) hsv (as := [.retAddr 0]) (n := 4) (by decide)
  rw [lg_entry_eq]
  refine (a_snd (l := l) (D := D) (tc := tc) (sv := sv) (b := s.heap.size) f d 303 0 _ _ 0 0 _ r hrun).2.2 hmt (p := p) (e := e) (R := room_1) (s := s) (m := m) (args := #[Value.ref b]) (below := below) (meth := meth) (c := c) (H := s.heap) (locs := []) (Q := lw_Z below #[Value.ref b] s) (n0 := 0) (z0 := 0) ⟨hx, hb, hml, hown, fun h => absurd h (by decide), htw, hK, hout, Nat.le_refl _, List.mem_of_getElem? hmt, hsv⟩ (he2.trans hml.symm) he1 ⟨rfl, fun i hi => by cases hi⟩ va_S.rf (Nat.le_refl _) (Nat.le_refl _) ⟨by show d + 1 ≤ 2048; omega, by show 60 * (d + 1) ≤ 84000; omega⟩ (by show r.1 - 0 ≤ 600000; omega) (by show r.2.1 - 0 ≤ 7302250; omega) ?_
  intro pc' ls' H' locs' hok hw' hS'
  rw [hans] at hok ⊢
  refine va_forget (fun q hq => hS'.2.2 q hq) ?_
  refine W.widen (k := 600000) (n := 7302250) (by omega) (by omega) ?_
  exact lw_ret hx hb hr hlocks hok.1
-- ===== YOUR PART ENDS =====
set_option maxHeartbeats 4000000 in
theorem lw_walk (l : Launch) (hflags : l.flags = flags0) (b : Addr) (xs : List Int32) : MetFree l x (headSpec (Jvm.Cond.code x code maxLocals ret :: tables_1) room_1) (lw_P b xs) (fun _ _ _ _ _ => True) lw_Q := by
  refine MetFree.of_bodyS (code := code) (maxLocals := maxLocals) (ret := ret) (by decide) ?_ ?_
  · intro args s m h hn
    obtain ⟨meth, c, h1, h2, h3, h4, h5, h6, -, -⟩ := Cond.code_spec hn (atoms_spec (ws := Jvm.Cond.code x code maxLocals ret :: tables_1) h _ List.mem_cons_self)
    exact ⟨meth, c, h1, h2, h3, h4, h5, h6⟩
  · intro p e s m args below meth c s₁ B hml0 hP _
    obtain ⟨rfl, hx, hbd, hgv⟩ := hP
    obtain ⟨scr, harrAt, hlist, hof, hsmall⟩ := hx
    obtain ⟨hcb, hkn, -, -⟩ := State.arrayAt?_spec harrAt
    have hown : s.vm.findClass R_law = some m.cls := findClass_of_methodNamed B.named
    have hts0 : ∀ c ∈ (Jvm.Cond.code x code maxLocals ret :: tables_1), c.before #[Value.ref b] s = true := atoms_spec (ws := Jvm.Cond.code x code maxLocals ret :: tables_1) B.pre
    have hts : ∀ w ∈ lw_tbl, w.before #[Value.ref b] s = true := k2_hts_sels lw_privs (fun w hw => hts0 w (List.mem_cons_of_mem _ hw)) lw_privs_ok
    have hml : c.maxLocals = 4 := B.maxLocals_eq (hts0 _ List.mem_cons_self)
    have X₀ : Stand p l e room_1 s m #[Value.ref b] below meth c s₁ [] 0 0 := Stand.of_body B
    have hh0 : s₁.heap = s.heap := by rw [B.state]; rfl
    have hsz : scr.slots.size = xs.length := by rw [← Array.length_toList, hlist, List.length_map]
    have hval : ∀ j : Nat, j < xs.length → scr.slots[j]? = some (.int (xs.getD j 0)) := fun j hj => by
      rw [← Array.getElem?_toList, hlist]
      simp [hj]
    have hbl : b < s.heap.size := (Array.getElem?_eq_some_iff.mp hcb).1
    have hX : va_X b xs.length (fun j => xs.getD j 0) s s.heap := ⟨scr, hcb, hof, hkn, hsz, hval⟩
    have K : W p l e room_1 s m #[Value.ref b] below meth c s₁.heap [] 0 0 (lw_Z below #[Value.ref b] s) (entryFrame m ([Value.ref b] : List Value).toArray 4) := by
      rw [hh0]
      exact whole_start l hflags hbd ⟨B.exec, B.bytes, B.returns, hml, hown, hts, hX, hbl, B.notSynchronized, hgv⟩
    obtain ⟨t, a1, o, b1, b2, b3⟩ := K s₁ rfl X₀
    exact ⟨t, o, a1, b1, b2, b3⟩
theorem lw_pre_spec {args : Array Value} {s : State} (h : (Jvm.Cond.and given_1 narrow_1).before args s = true) (hr : rest_1_c.before args s = true) : ∃ (b : Addr) (xs : List Int32), lw_P b xs args s := by
  have hs := flat_of_before _ h
  have hq := flat_of_before _ hr
  have hc : (Cond.count 1).before args s = true := hs _ (by decide +kernel)
  have harr : (Cond.arrayOf (.arg 0) .int).before args s = true := hs _ (by decide +kernel)
  have hle : (Cond.le (.length (.arg 0)) (.int 3072)).before args s = true := hs _ (by decide +kernel)
  have hlen : (Cond.isInt (.length (.arg 0))).before args s = true := hq _ (by decide +kernel)
  have hall : (Cond.all (.arg 0) (.isInt (.elem (.arg 0) (.index 0)))).before args s = true := hq _ (by decide +kernel)
  obtain ⟨b, xs, hb, hx⟩ := State.ints_of_pre rfl harr hlen hall
  have hsm : xs.length < 2 ^ 31 := hx.choose_spec.2.2.2
  have hev : (Term.length (.arg 0)).eval args s none [] s = some (.int xs.length.toInt32) := hx.length_eval hb
  have hv := Cond.le_ints hev (show (Term.int 3072).eval args s none [] s = some (.int 3072) from rfl)
  have hd : xs.length.toInt32 ≤ 3072 := by
    simpa [Cond.before, Cond.holds, hv] using hle
  have hN : xs.length ≤ 3072 := (Int32.ofNat_le_ofNat hsm (by decide)).mp (show Int32.ofNat xs.length ≤ Int32.ofNat 3072 from hd)
  exact ⟨b, xs, Cond.one_arg hc (show args[0]? = some (.ref b) from hb), hx, hN, h⟩
theorem lw_comes (l : Launch) (hflags : l.flags = flags0) : Comes l x (Jvm.Cond.code x code maxLocals ret :: tables_1) room_1 (fun tb e args s => Calls_1 tb e args s ∧ rest_1 tb e args s ∧ Pre_1 tb e args s)
    (fun _ _ args s o t => lw_Q args s o t) := by
  intro p e ha hc hk s m args below hf hfit hheap happ hpre
  obtain ⟨b, xs, hP⟩ := lw_pre_spec hpre.2.2 hpre.2.1
  obtain ⟨k, o, h1, h2, h3, hQ⟩ := lw_walk l hflags b xs p e ha hc hk s m args below hf ((Spec.applies_iff_loose hf).mp happ).1 hP trivial
  exact ⟨k, o, h1, h2, h3, hQ⟩
theorem lw_frame {s t : State} {o : Outcome} {args : Array Value} (h : Framed s o t [] 600000 7302250) :
    Framed s o t (fieldLocs frame_1_writes args s ++ arrayLocs frame_1_arrays args s ++ staticLocs frame_1_statics s) 600000 7302250 := h
theorem lw_limb (L : Cond) (hL : ∀ (args : Array Value) (s t : State), L.after args s (.returned (some (.int 1))) t = true) :
    ArmFor flags0 classFile x code maxLocals ret World_1 tables_1 room_1 Calls_1 rest_1 Pre_1
      (fun tb e a s o t => postC L tb e a s o t ∧ Framed s o t (fieldLocs frame_1_writes a s ++ arrayLocs frame_1_arrays a s ++ staticLocs frame_1_statics s) 600000 7302250) := by
  intro l hflags _ _ p e ha hc hk s m args below hf hfit hheap happ hpre
  obtain ⟨k, o, h1, h2, h3, rfl, hF⟩ := lw_comes l hflags p e ha hc hk s m args below hf hfit hheap happ hpre
  exact ⟨k, _, h1, h2, h3, hL args s _, lw_frame hF⟩
theorem i_vc : Claimed_1_1 ∧ Claimed_1_2 := ⟨lw_limb limb_1_1 (fun args s t => by simp [limb_1_1, Cond.after, Cond.holds, Cond.value]), lw_limb limb_1_2 (fun args s t => Cond.after_iff.mpr (by
  first | (rw [show limb_1_2 = Cond.eq .result (.int 1) from rfl, Cond.eq_ints (x := 1) (y := 1) rfl rfl]; simp; done) | (simp [limb_1_2, Cond.value, Term.eval]; done)))⟩

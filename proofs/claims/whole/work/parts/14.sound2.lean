section
variable {p : Program} {l : Launch} {e : Env} {R : Room} {s : State} {m : MethodId} {args : Array Value} {below : List Frame} {meth : Method} {c : Code} {H : Heap} {locs : List Loc} {cells slots : Nat} {Q : State → Prop} {D : va_G} {tc : Nat → ClassId} {sv : Nat → Value} {b : Nat} {X : mX} {mt : mT}
theorem a_cvc (hsv : a_svk sv) (v : Value) : (a_cv sv b v).category = v.category := by
  cases v with
  | retAddr k => rcases hsv k with q | ⟨a, q⟩ <;> simp [a_cv, q, Value.category]
  | _ => rfl
theorem a_lay_c (v : Value) (t : List Value) : a_lay (v :: t) = if v.category = 2 then some v :: none :: a_lay t else some v :: a_lay t := by
  cases v <;> rfl
theorem a_lay_len (hsv : a_svk sv) (as : List Value) : (lg_sl (as.map (a_cv sv b))).length = (a_lay as).length := by
  induction as with
  | nil => rfl
  | cons v t ih =>
    rw [a_lay_c]
    have h1 : lg_sl ((v :: t).map (a_cv sv b)) = (if (a_cv sv b v).category = 2 then [Slot.val (a_cv sv b v), .second] else [.val (a_cv sv b v)]) ++ lg_sl (t.map (a_cv sv b)) := rfl
    rw [h1, a_cvc hsv, List.length_append, ih]
    split
    · simp only [List.length_cons, List.length_nil]; omega
    · simp only [List.length_cons, List.length_nil]; omega
theorem a_lay_get (hsv : a_svk sv) (as : List Value) : ∀ (i j : Nat) (v : Value), a_lg (a_lay as) j = some v → (i + j, a_cv sv b v) ∈ lv_args i (as.map (a_cv sv b)) := by
  induction as with
  | nil => intro i j v h; exact (a_no h).elim
  | cons w t ih =>
    intro i j v h
    rw [a_lay_c] at h
    show _ ∈ (i, a_cv sv b w) :: lv_args (if (a_cv sv b w).category = 2 then i + 2 else i + 1) (t.map (a_cv sv b))
    rw [a_cvc hsv]
    split at h
    · rename_i h2
      rw [if_pos h2]
      match j with
      | 0 => cases h; exact List.mem_cons_self
      | 1 => exact (a_no h).elim
      | j + 2 =>
        have := ih (i + 2) j v h
        rw [show i + 2 + j = i + (j + 2) by omega] at this
        exact List.mem_cons_of_mem _ this
    · rename_i h2
      rw [if_neg h2]
      match j with
      | 0 => cases h; exact List.mem_cons_self
      | j + 1 =>
        have := ih (i + 1) j v h
        rw [show i + 1 + j = i + (j + 1) by omega] at this
        exact List.mem_cons_of_mem _ this
theorem a_lg_app (L : mL) : ∀ (k j : Nat) (v : Value), a_lg (L ++ List.replicate k none) j = some v → a_lg L j = some v := by
  induction L with
  | nil =>
    intro k
    induction k with
    | zero => intro j v h; exact (a_no h).elim
    | succ k ih =>
      intro j v h
      match j with
      | 0 => exact (a_no h).elim
      | j + 1 => exact (a_no (ih j v h)).elim
  | cons o t ih =>
    intro k j v h
    match j with
    | 0 => exact h
    | j + 1 => exact ih k j v h
theorem a_entry (hsv : a_svk sv) {as : List Value} {n : Nat} (h : (a_lay as).length ≤ n) : a_lh sv b ((lg_sl (as.map (a_cv sv b)) ++ List.replicate (n - (lg_sl (as.map (a_cv sv b))).length) Slot.unset).toArray) (a_ent n as) ∧ (a_ent n as).length = n := by
  have h1 := lv_entry (as.map (a_cv sv b)) (n := n) (by rw [a_lay_len hsv]; exact h)
  have h2 : (a_ent n as).length = n := by
    unfold a_ent
    rw [List.length_append, List.length_replicate]; omega
  refine ⟨⟨by rw [h2]; exact h1.1, h1.2.1, fun i v hv => ?_⟩, h2⟩
  have h3 := a_lg_app _ _ _ _ hv
  have h4 := a_lay_get (sv := sv) (b := b) hsv as 0 i v h3
  rw [Nat.zero_add] at h4
  exact h1.2.2 _ h4
theorem a_mx41 : ∀ q ∈ a_mt, q.2.2.1 ≤ 41 := by decide +kernel
theorem a_plain : ∀ q ∈ a_mt, Jvm.plainFor q.1 = true := by decide +kernel
theorem a_poly : ∀ q ∈ a_mt, q.1.cls ≠ "java/lang/invoke/MethodHandle" ∧ q.1.cls ≠ "java/lang/invoke/VarHandle" := by decide +kernel
theorem a_nargs : ∀ q ∈ a_mt.zip a_sg, (parseMethodDescriptor q.1.1.desc).map (fun d => d.parameters.length) = some q.2.1 := by decide +kernel
theorem a_init : ∀ q ∈ a_mt.zip a_sg, q.2.2 = 2 → q.1.1.name = "<init>" := by decide +kernel
/-- the words of a method -/
def a_ws (mt : mT) : List Cond := a_kw mt :: a_wl
set_option maxRecDepth 100000 in
theorem a_t303 : a_mt.take 303 = a_mt0 ++ (a_mt1 ++ (a_mt2 ++ (a_mt3 ++ (a_mt4 ++ (a_mt5 ++ (a_mt6 ++ (a_mt7 ++ (a_mt8 ++ (a_mt9 ++ (a_mt10 ++ (a_mt11 ++ (a_mt12 ++ (a_mt13 ++ (a_mt14 ++ (a_mt15 ++ (a_mt16 ++ (a_mt17 ++ (a_mt18.take 15)))))))))))))))))) := rfl
theorem a_mtl {y : Nat} {q : mT} (h : a_mt[y]? = some q) (hy : y < 303) : a_kw q ∈ a_wl := by
  have h1 : q ∈ a_mt.take 303 := List.mem_of_getElem? (i := y) (by rw [List.getElem?_take_of_lt hy]; exact h)
  rw [a_t303] at h1
  rcases List.mem_append.mp h1 with h1 | h1
  · exact a_kc0 q h1
  rcases List.mem_append.mp h1 with h1 | h1
  · exact a_kc1 q h1
  rcases List.mem_append.mp h1 with h1 | h1
  · exact a_kc2 q h1
  rcases List.mem_append.mp h1 with h1 | h1
  · exact a_kc3 q h1
  rcases List.mem_append.mp h1 with h1 | h1
  · exact a_kc4 q h1
  rcases List.mem_append.mp h1 with h1 | h1
  · exact a_kc5 q h1
  rcases List.mem_append.mp h1 with h1 | h1
  · exact a_kc6 q h1
  rcases List.mem_append.mp h1 with h1 | h1
  · exact a_kc7 q h1
  rcases List.mem_append.mp h1 with h1 | h1
  · exact a_kc8 q h1
  rcases List.mem_append.mp h1 with h1 | h1
  · exact a_kc9 q h1
  rcases List.mem_append.mp h1 with h1 | h1
  · exact a_kc10 q h1
  rcases List.mem_append.mp h1 with h1 | h1
  · exact a_kc11 q h1
  rcases List.mem_append.mp h1 with h1 | h1
  · exact a_kc12 q h1
  rcases List.mem_append.mp h1 with h1 | h1
  · exact a_kc13 q h1
  rcases List.mem_append.mp h1 with h1 | h1
  · exact a_kc14 q h1
  rcases List.mem_append.mp h1 with h1 | h1
  · exact a_kc15 q h1
  rcases List.mem_append.mp h1 with h1 | h1
  · exact a_kc16 q h1
  rcases List.mem_append.mp h1 with h1 | h1
  · exact a_kc17 q h1
  exact a_kc18 q h1
theorem a_ywl {y : Nat} {q : mT} {g : Nat × Nat} (h : a_mt[y]? = some q) (hg : a_sg[y]? = some g) (hy : y < 303) : ∀ w ∈ a_mw q g, w ∈ a_wl := by
  intro w hw
  refine a_iY w (List.mem_flatMap.mpr ⟨(q, g), ?_, hw⟩)
  refine List.mem_of_getElem? (i := y) ?_
  rw [List.getElem?_take_of_lt hy]
  exact List.getElem?_zip_eq_some.mpr ⟨h, hg⟩
theorem a_MetW {y : MethodName} {ws ws' : List Cond} {rm : Room} {Pc : Array Value → State → Prop} {Qc : Array Value → State → Outcome → State → Prop} {mc ms : Nat} {free : Addr → Prop} {cc : ByteArray} {maxL : Nat} {ret : Option FieldType}
    (hy : Jvm.plainFor y = true) (hw : ws = Cond.code y cc maxL ret :: ws')
    (body : ∀ p e s m args below meth c s₁, BodyLoose p l y (headSpec ws rm) cc maxL ret e s m args below meth c s₁ → c.maxLocals = maxL → Pc args s →
      W p l e (headSpec ws rm).room s m args below meth c s.heap [] 0 0 (MQ below Qc args s mc ms free) (entryFrame m args maxL)) : Met l y ws rm Pc Qc mc ms free := by
  refine MetFree.of_bodySF (code := cc) (maxLocals := maxL) (ret := ret) hy ?_ ?_
  · intro args s m h hn
    obtain ⟨meth, c, h1, h2, h3, h4, h5, h6, -, -⟩ := Cond.code_spec hn (atoms_spec (ws := ws) h _ (by rw [hw]; exact List.mem_cons_self))
    exact ⟨meth, c, h1, h2, h3, h4, h5, h6⟩
  · intro p e s m args below meth c s₁ B hml hP _
    have hh0 : s₁.heap = s.heap := by rw [B.state]; rfl
    obtain ⟨t, a1, o, b1, b2, b3⟩ := body p e s m args below meth c s₁ B hml hP s₁ hh0 (Stand.of_body B)
    exact ⟨t, o, a1, b1, b2, ⟨b3.1, b3.2⟩⟩
/-- a method's start, its end, its room -/
def a_Pc (D : va_G) (tc : Nat → ClassId) (sv : Nat → Value) (b : Nat) (X : mX) (as : List Value) (n : Nat) (M : mM) : Array Value → State → Prop := va_Pc (as.map (a_cv sv b)) fun U => a_wd D tc sv b n M U.heap ∧ va_K D a_cl (a_tys tc) U ∧ a_out sv b X U U.heap
def a_Qc (D : va_G) (tc : Nat → ClassId) (sv : Nat → Value) (b : Nat) (v : Option Value) (n : Nat) (M : mM) : Array Value → State → Outcome → State → Prop := fun _ st o t => o = .returned (v.map (a_cv sv b)) ∧ a_wd D tc sv b n M t.heap ∧ va_F (fun q => b ≤ q) st t
def a_rm (d k z : Nat) : Room := { frames := d + 1, cells := k, slots := z, locals := 60 * (d + 1) }
theorem a_goodW {q : mT} : ∀ w ∈ a_ws q, (w.onTables && w.keeps) = true ∨ ∃ ty, w = .arrayClass ty := by
  intro w hw
  rcases List.mem_cons.mp hw with rfl | h
  · exact Or.inl rfl
  · exact good_of_word (List.mem_filter.mp h).2
theorem a_good {q : mT} (hk : a_kw q ∈ a_wl) : GoodIn a_wl (a_ws q) := by
  intro w hw
  refine ⟨?_, a_goodW w hw⟩
  rcases List.mem_cons.mp hw with rfl | h
  · exact hk
  · exact h
end

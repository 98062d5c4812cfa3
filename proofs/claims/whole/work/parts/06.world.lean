/-! what the small machine's cells are in the heap: cell i lies at b + i -/
def a_cv (sv : Nat → Value) (b : Nat) : Value → Value
  | .ref i => .ref (b + i)
  | .retAddr k => sv k
  | v => v
def a_ca (b : Nat) (a : vp_A) : vp_A := (a.1, match a.2 with
  | .inr (.inr (.inr (.inr f))) => .inr (.inr (.inr (.inr (fun j => (f j).map (b + ·)))))
  | x => x)
def a_ce (tc : Nat → ClassId) (sv : Nat → Value) (b : Nat) : mC → va_E
  | .inl q => .inl (tc q.1, a_ca b q.2)
  | .inr q => .inr (q.1, q.2.map (a_cv sv b))
def a_ok : mC → Bool
  | .inl q => decide (q.1 < 4)
  | .inr q => decide (q.1 < 11)
def a_wd (D : va_G) (tc : Nat → ClassId) (sv : Nat → Value) (b n : Nat) (M : mM) (H : Heap) : Prop := H.size = b + n ∧ ∀ i, a_ok (M i) = true → i < n ∧ va_at D a_cl (b + i, a_ce tc sv b (M i)) H
def a_tys (tc : Nat → ClassId) : List (ClassId × FieldType) := [(tc 0, .int), (tc 1, .char), (tc 2, .long), (tc 3, .object "NoonBell$Moment")]
def a_lh (sv : Nat → Value) (b : Nat) (ls : Array Slot) (L : mL) : Prop := ls.size = L.length ∧ lv_wf ls ∧ ∀ i v, a_lg L i = some v → ls[i]? = some (.val (a_cv sv b v))
def a_ns : List (String × Nat × MethodName) := [(RX9, 43, yX0_init), (RX5, 17, yX4_init), (RX9, 57, yX4_init), (RX9, 67, yX1_init), (RX9, 324, yX8_init)]
def a_s49 : String := "person ward task hard does at covers knows learn forget can notice clock day points same own theirs or and not all min max "
def a_s55 : String := "first last often total most least hour life dries "
/-- what lies outside: the script, the two texts, the JDK's two statics, the words of the tables that speak of one nest -/
def a_out (sv : Nat → Value) (b : Nat) (X : mX) (U : State) (H : Heap) : Prop :=
  (∃ scr : Nat, sv 0 = .ref scr ∧ scr < b ∧ ∀ x, X = some x → va_X scr x.1 x.2 U H) ∧
  (∃ adK adV : Nat → Nat, vk_S 2 a_len a_byt adK adV (fun q => b ≤ q) U H ∧ (sv 1 = .ref (adK 0) ∧ sv 2 = .ref (adK 1) ∧ sv 11 = .ref (adV 0) ∧ sv 12 = .ref (adV 1)) ∧ vk_R RX6 49 a_s49 (adK 0) U ∧ vk_R RX6 55 a_s55 (adK 1) U) ∧
  va_Z "java/lang/String" "COMPACT_STRINGS" "Z" (.int 1) (fun q => b ≤ q) U H ∧
  va_Z "jdk/internal/util/Preconditions" "SIOOBE_FORMATTER" "Ljava/util/function/BiFunction;" (sv 20) (fun q => b ≤ q) U H ∧
  (∀ q ∈ a_ns, va_Nw (.methodLinkNest q.1 q.2.1 q.2.2 RX9) U) ∧ va_AO "NoonBell$Moment" U
def a_svk (sv : Nat → Value) : Prop := ∀ k, sv k = .null ∨ ∃ a, sv k = .ref a
theorem a_out.moved {sv : Nat → Value} {b : Nat} {X : mX} {s U : State} {H H1 : Heap} (hW : s.WarmedH U.vm) (hq : ∀ a : Nat, a < H.size → a < b → H1[a]? = H[a]?) (hz : b ≤ H.size) (h : a_out sv b X s H) : a_out sv b X U H1 := by
  obtain ⟨⟨scr, e0, h0, hX⟩, ⟨adK, adV, hE, he, hr1, hr2⟩, hz1, hz2, hn, ho⟩ := h
  have hk : ∀ a : Nat, a < H.size → ¬ (fun q => b ≤ q) a → H1[a]? = H[a]? := fun a h1 h2 => hq a h1 (by simpa using h2)
  refine ⟨⟨scr, e0, h0, fun x hx => ((hX x hx).kept (hq scr (by omega) h0)).moved hW.alike⟩, ⟨adK, adV, (hE.kept hk).moved hW.alike, he, hr1.warm hW, hr2.warm hW⟩, (hz1.kept hk).moved hW.alike, (hz2.kept hk).moved hW.alike, fun q h1 => va_Nw.warmM hW (hn q h1), ho.moved hW.alike⟩
theorem a_out.same {sv : Nat → Value} {b : Nat} {X : mX} {s U : State} {H : Heap} (hv : U.vm = s.vm) (h : a_out sv b X s H) : a_out sv b X U H := by
  obtain ⟨⟨scr, e0, h0, hX⟩, ⟨adK, adV, hE, he, hr1, hr2⟩, hz1, hz2, hn, ho⟩ := h
  have ha : s.vm.Alike U.vm := by rw [hv]; exact Vm.Alike.refl _
  refine ⟨⟨scr, e0, h0, fun x hx => (hX x hx).moved ha⟩, ⟨adK, adV, hE.moved ha, he, hr1.same hv, hr2.same hv⟩, hz1.moved ha, hz2.moved ha, fun q h1 => va_Nw.same rfl hv.symm (hn q h1), ho.moved ha⟩
theorem a_no {α : Type} {x : α} (h : (none : Option α) = some x) : False := by cases h
theorem a_c1v {n len pc nx : Nat} {i i' : mI} (h : a_c1 n len pc i = some (i', nx)) : len = n ∧ i' = i ∧ nx = pc + n := by
  unfold a_c1 at h
  split at h
  · cases h; exact ⟨by assumption, rfl, rfl⟩
  · exact (a_no h).elim
theorem a_b2v {g : Int32 → Int32 → Option Value} {st st' : List Value} (h : a_b2 g st = some st') : ∃ x y r v, st = .int y :: .int x :: r ∧ g x y = some v ∧ st' = v :: r := by
  unfold a_b2 at h
  split at h
  · rename_i y x r
    cases hg : g x y with
    | none => rw [hg] at h; exact (a_no h).elim
    | some v => rw [hg] at h; cases h; exact ⟨x, y, r, v, rfl, hg, rfl⟩
  · exact (a_no h).elim
theorem a_j2v {g : Int64 → Int64 → Option Value} {st st' : List Value} (h : a_j2 g st = some st') : ∃ x y r v, st = .long y :: .long x :: r ∧ g x y = some v ∧ st' = v :: r := by
  unfold a_j2 at h
  split at h
  · rename_i y x r
    cases hg : g x y with
    | none => rw [hg] at h; exact (a_no h).elim
    | some v => rw [hg] at h; cases h; exact ⟨x, y, r, v, rfl, hg, rfl⟩
  · exact (a_no h).elim
theorem a_u1v {g : Value → Option Value} {st st' : List Value} (h : a_u1 g st = some st') : ∃ x r v, st = x :: r ∧ g x = some v ∧ st' = v :: r := by
  unfold a_u1 at h
  split at h
  · rename_i x r
    cases hg : g x with
    | none => rw [hg] at h; exact (a_no h).elim
    | some v => rw [hg] at h; cases h; exact ⟨x, r, v, rfl, hg, rfl⟩
  · exact (a_no h).elim
theorem a_lkv {α : Type} {t : List (Nat × α)} {k : Nat} {x : α} (h : a_lk t k = some x) : (k, x) ∈ t := by
  induction t with
  | nil => exact (a_no h).elim
  | cons q t ih =>
    obtain ⟨i, y⟩ := q
    unfold a_lk at h
    split at h
    · rename_i hk; cases h; subst hk; exact List.mem_cons_self
    · exact List.mem_cons_of_mem _ (ih h)
theorem a_pool {α : Type} {P : List (List α)} (hP : P.length = 17) {o : Nat} {x : α} (h : x ∈ P.getD o []) : o < 17 := by
  by_cases ho : o < 17
  · exact ho
  · rw [List.getD_eq_getElem?_getD, List.getElem?_eq_none (by omega)] at h
    cases h
theorem a_inF {o : Nat} {q : Nat × Nat × Nat} (h : q ∈ a_pF.getD o []) : a_fl o q ∈ a_wl := a_iF _ (List.mem_flatMap.mpr ⟨o, List.mem_range.mpr (a_pool (by decide +kernel) h), List.mem_map.mpr ⟨q, h, rfl⟩⟩)
theorem a_inM {o : Nat} {q : Nat × Nat} (h : q ∈ a_pM.getD o []) : a_ml o q ∈ a_wl := a_iM _ (List.mem_flatMap.mpr ⟨o, List.mem_range.mpr (a_pool (by decide +kernel) h), List.mem_map.mpr ⟨q, h, rfl⟩⟩)
theorem a_inC {o : Nat} {q : Nat × Nat} (h : q ∈ a_pC.getD o []) : a_kl o q ∈ a_wl := a_iC _ (List.mem_flatMap.mpr ⟨o, List.mem_range.mpr (a_pool (by decide +kernel) h), List.mem_map.mpr ⟨q, h, rfl⟩⟩)
theorem a_inO {o k : Nat} (h : k ∈ a_pO.getD o []) : Cond.methodLink (a_on o) k Lib.objectInit ∈ a_wl := a_iO _ (List.mem_flatMap.mpr ⟨o, List.mem_range.mpr (a_pool (by decide +kernel) h), List.mem_map.mpr ⟨k, h, rfl⟩⟩)
theorem a_inJ {o : Nat} {q : Nat × Int} (h : q ∈ a_pJ.getD o []) : Cond.constantLong (a_on o) q.1 (Int64.ofInt q.2) ∈ a_wl := a_iJ _ (List.mem_flatMap.mpr ⟨o, List.mem_range.mpr (a_pool (by decide +kernel) h), List.mem_map.mpr ⟨q, h, rfl⟩⟩)
theorem a_inI {o : Nat} {q : Nat × Int} (h : q ∈ a_pI.getD o []) : Cond.constant (a_on o) q.1 (Int32.ofInt q.2) ∈ a_wl := a_iI _ (List.mem_flatMap.mpr ⟨o, List.mem_range.mpr (a_pool (by decide +kernel) h), List.mem_map.mpr ⟨q, h, rfl⟩⟩)
/-- the class's own number is the one of its name -/
theorem a_onm : ∀ m ∈ a_mt, a_on m.2.2.2.2 = m.1.cls := by decide +kernel
theorem a_Fk : ∀ o, o < 17 → ∀ q ∈ a_pF.getD o [], ∃ r, a_cl[q.2.1]? = some r ∧ q.2.2 < r.2.2 ∧ q.2.1 < 11 := by
  have h : ((List.range 17).all (fun o => (a_pF.getD o []).all (fun q => match a_cl[q.2.1]? with
    | some r => decide (q.2.2 < r.2.2) && decide (q.2.1 < 11)
    | none => false))) = true := by decide +kernel
  intro o ho q hq
  have h1 := List.all_eq_true.mp (List.all_eq_true.mp h o (List.mem_range.mpr ho)) q hq
  split at h1
  · rename_i r hr
    simp only [Bool.and_eq_true, decide_eq_true_eq] at h1
    exact ⟨r, hr, h1.1, h1.2⟩
  · cases h1
/-- the world of one method's walk -/
def a_cx (p : Program) (s : State) (m : MethodId) (args : Array Value) (meth : Method) (c : Code) (D : va_G) (tc : Nat → ClassId) (sv : Nat → Value) (b : Nat) (X : mX) (mt : mT) : Prop :=
  p.tables.exec = Jvm.exec ∧ c.code = mt.2.1 ∧ c.maxLocals = mt.2.2.1 ∧ s.vm.findClass mt.1.cls = some m.cls ∧ (mt.1.name = "<init>" → meth.name = "<init>") ∧ (∀ w ∈ a_wl, w.before args s = true) ∧ va_K D a_cl (a_tys tc) s ∧ a_out sv b X s s.heap ∧ b ≤ s.heap.size ∧ mt ∈ a_mt ∧ a_svk sv

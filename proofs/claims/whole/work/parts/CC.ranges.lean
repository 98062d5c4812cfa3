/-! answers are ints: what is kept, waves, counts -/
/-- what is kept is in bounds -/
def eOk (e : Int × Int × Int × Int) : Prop := (-1 ≤ e.1 ∧ e.1 ≤ 9999) ∧ (-1 ≤ e.2.1 ∧ e.2.1 ≤ 9999) ∧ (-1 ≤ e.2.2.1 ∧ e.2.2.1 ≤ 9999) ∧ (-1 ≤ e.2.2.2 ∧ e.2.2.2 ≤ 9999)
def okE (M : mMo) : Prop := ∀ e ∈ me M, eOk e
theorem okE_keep {M : mMo} {w l p : Int} (h : okE M) (hm : 0 ≤ mh M ∧ mh M ≤ 9999) (hw : 0 ≤ w ∧ w ≤ 2) (hl : 0 ≤ l ∧ l ≤ 10) (hp : -1 ≤ p ∧ p ≤ 10) : okE (keepM M w l p) := by
  intro e he
  have he' : e ∈ (if (me M).length = 40 then (me M).tail else me M) ++ [(mh M, w, l, p)] := he
  rcases List.mem_append.mp he' with q | q
  · split at q
    · exact h e (List.mem_of_mem_tail q)
    · exact h e q
  · rw [List.mem_singleton.mp q]
    exact ⟨by show -1 ≤ mh M ∧ mh M ≤ 9999; omega, by show -1 ≤ w ∧ w ≤ 9999; omega, by show -1 ≤ l ∧ l ≤ 9999; omega, by show -1 ≤ p ∧ p ≤ 9999; omega⟩
theorem okE_note {C : mCy} {clock day l who : Int} (hl : 0 ≤ l ∧ l ≤ 10) : ∀ (m : Nat) (k : Int) (M : mMo), 0 ≤ k → k + m ≤ 10 → okE M → (0 ≤ mh M ∧ mh M ≤ 9999) → okE (itr (noteM C clock day l who) k m M)
  | 0, _, _, _, _, h, _ => h
  | m + 1, k, M, hk, hkm, h, hm => by
    refine okE_note hl m (k + 1) (noteM C clock day l who k M) (by omega) (by omega) ?_ ?_
    · unfold noteM
      split
      · exact okE_keep h hm (by decide) hl (by omega)
      · exact h
    · unfold noteM
      split
      · exact hm
      · exact hm
/-- a step of an hour: counts go up by one at most, what failed first is a life -/
def stO (S S' : mSt) : Prop := (okE S.1 → okE S'.1) ∧ (S.2.1.1 ≤ S'.2.1.1 ∧ S'.2.1.1 ≤ S.2.1.1 + 1) ∧ (S.2.1.2 ≤ S'.2.1.2 ∧ S'.2.1.2 ≤ S.2.1.2 + 1) ∧ ((0 ≤ S.2.2.1.2.2 ∧ S.2.2.1.2.2 ≤ 10) → 0 ≤ S'.2.2.1.2.2 ∧ S'.2.2.1.2.2 ≤ 10) ∧ ((-1 ≤ S.2.2.1.2.1 ∧ S.2.2.1.2.1 ≤ 1) → -1 ≤ S'.2.2.1.2.1 ∧ S'.2.2.1.2.1 ≤ 1)
theorem stO_fail {S : mSt} {w l p : Int} (hm : 0 ≤ mh S.1 ∧ mh S.1 ≤ 9999) (hw : w = 0 ∨ w = 1) (hl : 0 ≤ l ∧ l ≤ 10) (hp : -1 ≤ p ∧ p ≤ 10) : stO S (failX S w l p) := by
  refine ⟨fun h => okE_keep h hm (by omega) hl hp, ?_, ?_, fun h => ?_, fun h => ?_⟩
  · show S.2.1.1 ≤ (if w = 0 then S.2.1.1 + 1 else S.2.1.1) ∧ (if w = 0 then S.2.1.1 + 1 else S.2.1.1) ≤ S.2.1.1 + 1
    split <;> omega
  · show S.2.1.2 ≤ (if w = 1 then S.2.1.2 + 1 else S.2.1.2) ∧ (if w = 1 then S.2.1.2 + 1 else S.2.1.2) ≤ S.2.1.2 + 1
    split <;> omega
  · show 0 ≤ (if S.2.2.1.2.1 = -1 then (mh S.1, w, l) else S.2.2.1).2.2 ∧ (if S.2.2.1.2.1 = -1 then (mh S.1, w, l) else S.2.2.1).2.2 ≤ 10
    split
    · exact hl
    · exact h
  · show -1 ≤ (if S.2.2.1.2.1 = -1 then (mh S.1, w, l) else S.2.2.1).2.1 ∧ (if S.2.2.1.2.1 = -1 then (mh S.1, w, l) else S.2.2.1).2.1 ≤ 1
    split
    · show -1 ≤ w ∧ w ≤ 1; omega
    · exact h
theorem stO_duty {C : mCy} {S : mSt} {clock day l task : Int} (ho : okC C) (hm : 0 ≤ mh S.1 ∧ mh S.1 ≤ 9999) (hl : 0 ≤ l ∧ l < cn C) : stO S (dutyS C clock day S l task) := by
  have hn := ho.1
  have hf := fi_rg (ml S.1) l (cn C).toNat 0
  unfold dutyS
  simp only
  generalize fi (ml S.1) l 0 (cn C).toNat = who at hf ⊢
  have hw : -1 ≤ who ∧ who ≤ 10 := by rcases hf with q | q <;> omega
  by_cases a : who = -1
  · rw [if_pos a]; exact stO_fail hm (Or.inl rfl) (by omega) (by decide)
  rw [if_neg a]
  by_cases b : able C (mp S.1 who l) (if who = l then 1 else 0) task clock day = 0
  · rw [if_pos b]
    exact stO_fail (S := dry S who) hm (Or.inr rfl) (by omega) hw
  rw [if_neg b]
  by_cases c : who = l
  · rw [if_pos c]; exact ⟨id, ⟨by omega, by omega⟩, ⟨by omega, by omega⟩, id, id⟩
  rw [if_neg c]
  exact ⟨fun h => okE_note (by omega) _ 0 S.1 (by decide) (by omega) h hm, ⟨Int.le_refl _, by show S.2.1.1 ≤ S.2.1.1 + 1; omega⟩, ⟨Int.le_refl _, by show S.2.1.2 ≤ S.2.1.2 + 1; omega⟩, id, id⟩
/-- several steps -/
def stK (k : Int) (S S' : mSt) : Prop := (okE S.1 → okE S'.1) ∧ (S.2.1.1 ≤ S'.2.1.1 ∧ S'.2.1.1 ≤ S.2.1.1 + k) ∧ (S.2.1.2 ≤ S'.2.1.2 ∧ S'.2.1.2 ≤ S.2.1.2 + k) ∧ ((0 ≤ S.2.2.1.2.2 ∧ S.2.2.1.2.2 ≤ 10) → 0 ≤ S'.2.2.1.2.2 ∧ S'.2.2.1.2.2 ≤ 10) ∧ ((-1 ≤ S.2.2.1.2.1 ∧ S.2.2.1.2.1 ≤ 1) → -1 ≤ S'.2.2.1.2.1 ∧ S'.2.2.1.2.1 ≤ 1)
theorem stK_0 {S : mSt} {k : Int} (hk : 0 ≤ k) : stK k S S := ⟨id, ⟨Int.le_refl _, by omega⟩, ⟨Int.le_refl _, by omega⟩, id, id⟩
theorem stK.trans {S S1 S2 : mSt} {a b k : Int} (h : stK a S S1) (g : stK b S1 S2) (e : a + b ≤ k) : stK k S S2 := by
  obtain ⟨a1, a2, a3, a4, a5⟩ := h
  obtain ⟨b1, b2, b3, b4, b5⟩ := g
  exact ⟨fun z => b1 (a1 z), ⟨by omega, by omega⟩, ⟨by omega, by omega⟩, fun z => b4 (a4 z), fun z => b5 (a5 z)⟩
theorem stK_fold {C : mCy} {clock day : Int} (ho : okC C) : ∀ (D : List (Int × Int × Int)) (S : mSt), (∀ d ∈ D, d ∈ cd C) → (0 ≤ mh S.1 ∧ mh S.1 ≤ 9999) → stK (D.length : Int) S (D.foldl (stD C clock day) S)
  | [], S, _, _ => stK_0 (by decide)
  | d :: D, S, hD, hm => by
    have e1 : stK 1 S (stD C clock day S d) := by
      unfold stD
      split
      · exact stO_duty ho hm (ho.2.2.1.2 d (hD d List.mem_cons_self)).1
      · exact stK_0 (by decide)
    have hm2 : mh (stD C clock day S d).1 = mh S.1 := mh_stD [d] S
    have e2 := stK_fold (clock := clock) (day := day) ho D (stD C clock day S d) (fun d' h' => hD d' (List.mem_cons_of_mem _ h')) (by rw [hm2]; exact hm)
    exact e1.trans e2 (by rw [List.length_cons]; omega)
theorem me_wat {C : mCy} {a b : Int} : ∀ (m : Nat) (k : Int) (M : mMo), me (itr (watM C a b) k m M) = me M
  | 0, _, _ => rfl
  | m + 1, k, M => by
    have e := me_wat (C := C) (a := a) (b := b) m (k + 1) (watM C a b k M)
    show me (itr (watM C a b) (k + 1) m (watM C a b k M)) = _
    rw [e]
    unfold watM
    split <;> rfl
theorem stK_hour {C : mCy} {S : mSt} (ho : okC C) (hm : 0 ≤ mh S.1 ∧ mh S.1 ≤ 9998) : stK 24 S (hourS C S) := by
  have hl := srt_len (cn C).toNat (cd C)
  have hl2 := ho.2.2.1.1
  have key : ∀ M : mMo, mh M = mh S.1 + 1 → me M = me S.1 → stK 24 S (itr (watM C ((mh S.1 + 1) % 24) ((mh S.1 + 1) / 24)) 0 (cn C).toNat ((srt (cn C).toNat (cd C)).foldl (stD C ((mh S.1 + 1) % 24) ((mh S.1 + 1) / 24)) (M, S.2)).1, ((srt (cn C).toNat (cd C)).foldl (stD C ((mh S.1 + 1) % 24) ((mh S.1 + 1) / 24)) (M, S.2)).2) := by
    intro M h1 h2
    obtain ⟨a1, a2, a3, a4, a5⟩ := stK_fold (clock := (mh S.1 + 1) % 24) (day := (mh S.1 + 1) / 24) ho (srt (cn C).toNat (cd C)) (M, S.2) (fun d hd => srt_mem hd) (by show 0 ≤ mh M ∧ mh M ≤ 9999; omega)
    have a2' : S.2.1.1 ≤ _ ∧ _ ≤ S.2.1.1 + _ := a2
    have a3' : S.2.1.2 ≤ _ ∧ _ ≤ S.2.1.2 + _ := a3
    refine ⟨fun h e he => ?_, ⟨a2'.1, Int.le_trans a2'.2 (by omega)⟩, ⟨a3'.1, Int.le_trans a3'.2 (by omega)⟩, a4, a5⟩
    have he' : e ∈ me (itr (watM C ((mh S.1 + 1) % 24) ((mh S.1 + 1) / 24)) 0 (cn C).toNat ((srt (cn C).toNat (cd C)).foldl (stD C ((mh S.1 + 1) % 24) ((mh S.1 + 1) / 24)) (M, S.2)).1) := he
    rw [me_wat] at he'
    refine a1 ?_ e he'
    intro e' he''
    have : e' ∈ me M := he''
    rw [h2] at this
    exact h e' this
  unfold hourS
  simp only
  split
  · exact key _ rfl rfl
  · exact key _ rfl rfl
theorem stK_hours {C : mCy} (ho : okC C) : ∀ (k : Nat) (S : mSt), 0 ≤ mh S.1 → mh S.1 + k ≤ 9999 → stK (24 * (k : Int)) S (hoursS C k S)
  | 0, _, _, _ => stK_0 (by decide)
  | k + 1, S, h0, h1 => by
    have e1 : stK 24 S (hourS C (S.1, S.2.1, S.2.2.1, fun _ => 0)) := stK_hour (S := (S.1, S.2.1, S.2.2.1, fun _ => 0)) ho ⟨h0, by show mh S.1 ≤ 9998; omega⟩
    have hm : mh (hourS C (S.1, S.2.1, S.2.2.1, fun _ => 0)).1 = mh S.1 + 1 := mh_hour
    have e2 := stK_hours ho k (hourS C (S.1, S.2.1, S.2.2.1, fun _ => 0)) (by omega) (by omega)
    exact e1.trans e2 (by omega)
theorem okE_hours {C : mCy} (ho : okC C) {k : Nat} {M : mMo} (h : okE M) (h0 : 0 ≤ mh M) (h1 : mh M + k ≤ 9999) : okE (hoursS C k (s0 M)).1 := (stK_hours ho k (s0 M) h0 h1).1 h
theorem stK_frs {C : mCy} (ho : okC C) : ∀ (f : Nat) (S : mSt), 0 ≤ mh S.1 ∧ mh S.1 ≤ 9999 → S.2.2.1.2.1 = -1 → stK (24 * (f : Int)) S (frsS C f S) ∧ (0 ≤ mh (frsS C f S).1 ∧ mh (frsS C f S).1 ≤ 9999) ∧ fstP (frsS C f S)
  | 0, _, h, h2 => ⟨stK_0 (by decide), h, Or.inl h2⟩
  | f + 1, S, h, h2 => by
    unfold frsS
    split
    · exact ⟨stK_0 (by omega), h, Or.inl h2⟩
    · next q =>
      have e1 : stK 24 S (hourS C (S.1, S.2.1, S.2.2.1, fun _ => 0)) := stK_hour (S := (S.1, S.2.1, S.2.2.1, fun _ => 0)) ho ⟨h.1, by show mh S.1 ≤ 9998; omega⟩
      have hm : mh (hourS C (S.1, S.2.1, S.2.2.1, fun _ => 0)).1 = mh S.1 + 1 := mh_hour
      split
      · next q2 =>
        obtain ⟨e2, e3, e4⟩ := stK_frs ho f (hourS C (S.1, S.2.1, S.2.2.1, fun _ => 0)) (by omega) q2
        exact ⟨e1.trans e2 (by omega), e3, e4⟩
      · exact ⟨e1.trans (stK_0 (k := 24 * (f : Int)) (by omega)) (by omega), by omega, fst_hour h2⟩
/-- a wave's people -/
theorem wav_rg {C : mCy} (ho : okC C) : ∀ (f : Nat) {lv : Int → Int} {left : Int} {mv : List Int}, (0 ≤ left ∧ left < cn C) → (∀ a ∈ mv, 0 ≤ a ∧ a < cn C) → (0 ≤ (wav C f lv left mv).2.1 ∧ (wav C f lv left mv).2.1 < cn C) ∧ ∀ a ∈ (wav C f lv left mv).2.2, 0 ≤ a ∧ a < cn C
  | 0, _, _, _, h, h2 => ⟨h, h2⟩
  | f + 1, lv, left, mv, h, h2 => by
    unfold wav
    split
    · exact ⟨h, h2⟩
    · next q =>
      have hb := (ho.2.2.2.2.2.1 left h.1 h.2).2
      have hne : ¬ cb C left = -1 := fun z => q (Or.inl z)
      refine wav_rg ho f ⟨by omega, by omega⟩ (fun a ha => ?_)
      rcases List.mem_append.mp ha with z | z
      · exact h2 a z
      · rw [List.mem_singleton.mp z]; exact ⟨by omega, by omega⟩
theorem sendA_rg {C : mCy} (ho : okC C) {lv : Int → Int} {p : Int} (h : 0 ≤ lv p ∧ lv p < cn C) : (0 ≤ (sendA C lv p).2.1 ∧ (sendA C lv p).2.1 < cn C) ∧ ∀ a ∈ (sendA C lv p).2.2, 0 ≤ a ∧ a < cn C := wav_rg ho 10 h (fun a ha => by cases ha)
theorem getD_rg {l : List Int} {lo hi : Int} (h : ∀ a ∈ l, lo ≤ a ∧ a ≤ hi) (i : Nat) (h0 : lo ≤ 0 ∧ 0 ≤ hi) : lo ≤ l.getD i 0 ∧ l.getD i 0 ≤ hi := by
  rw [List.getD_eq_getElem?_getD]
  cases e : l[i]? with
  | none => exact h0
  | some a => exact h a (List.mem_of_getElem? e)
/-- what is kept, all moments -/
def okEZ (Z : mZ) : Prop := okE Z.2.1 ∧ ∀ Q ∈ Z.2.2.1, okE Q
section
variable {Z : mZ}
theorem okEZ_new {M : mMo} (h : okEZ Z) (hM : okE M) : okEZ (Z.1, M, (Z.2.1 :: Z.2.2.1).take 20, Z.2.2.2) := by
  refine ⟨hM, fun Q hQ => ?_⟩
  rcases List.mem_cons.mp (List.mem_of_mem_take hQ) with q | q
  · rw [q]; exact h.1
  · exact h.2 Q q
theorem okEZ_ref {k : Int} (h : okEZ Z) : okEZ (refZ Z k) := h
theorem okEZ_call {p : Int} (h : okEZ Z) : okEZ (callZ Z p) := by
  unfold callZ
  split
  · exact okEZ_new h h.1
  · exact h
theorem okEZ_go {k : Int} (ho : okZ Z) (h : okEZ Z) : okEZ (goZ Z k) := by
  have hh := ho.2.1.1
  unfold goZ
  split
  · next q => exact okEZ_new h (okE_hours ho.1 h.1 hh.1 (by omega))
  · exact h
theorem okEZ_undo (h : okEZ Z) : okEZ (undoZ Z) := by
  obtain ⟨C, M, P, R⟩ := Z
  cases P with
  | nil => exact h
  | cons Q P => exact ⟨h.2 Q List.mem_cons_self, fun Q' h' => h.2 Q' (List.mem_cons_of_mem _ h')⟩
theorem okEZ_watch {p l : Int} (h : okEZ Z) : okEZ (watchZ Z p l) := by
  unfold watchZ
  split
  · exact okEZ_new h h.1
  · exact h
theorem okEZ_teach {p l k : Int} (h : okEZ Z) : okEZ (teachZ Z p l k) := by
  unfold teachZ
  split
  · exact okEZ_new h h.1
  · exact h
theorem okE_rng {C : mCy} {M : mMo} {s : Int} (h : okE M) : okE (rngM C M s).1 := by
  unfold rngM
  split
  · exact h
  · split <;> exact h
theorem okE_bell {C : mCy} {y : mMo × Int} (ho : okC C) (h : okE y.1) (h0 : 0 ≤ mh y.1) (h1 : mh y.1 + till (mh y.1) + 12 ≤ 9999) : okE (bellM C y).1 := by
  have ht := till_rg (mh y.1)
  refine okE_hours ho (okE_rng (okE_hours ho h h0 (by omega))) ?_ ?_
  · rw [rng_mh, mh_hours]; show 0 ≤ mh y.1 + _; omega
  · rw [rng_mh, mh_hours]; show mh y.1 + (((till (mh y.1)).toNat : Nat) : Int) + ((12 : Nat) : Int) ≤ 9999; omega
theorem okE_bells {C : mCy} (ho : okC C) : ∀ (k : Nat) {y : mMo × Int}, okE y.1 → 0 ≤ mh y.1 → mh y.1 + till (mh y.1) + 24 * (k : Int) - 12 ≤ 9999 → okE (bellsM C k y).1
  | 0, _, h, _, _ => h
  | k + 1, y, h, h0, h1 => by
    have ht := till_rg (mh y.1)
    refine okE_bells ho k (okE_bell ho h h0 (by omega)) ?_ ?_
    · rw [bell_mh]; omega
    · rw [bell_mh]
      have : till (mh y.1 + till (mh y.1) + 12) = 12 := by unfold till; omega
      rw [this]; omega
theorem okEZ_bells {s k : Int} (ho : okZ Z) (h : okEZ Z) : okEZ (bellsZ Z s k).1 := by
  have hh := ho.2.1.1
  unfold bellsZ
  split
  · next q => exact okEZ_new h (okE_bells ho.1 _ h.1 hh.1 (by show mh Z.2.1 + till (mh Z.2.1) + _ - 12 ≤ 9999; omega))
  · exact h
-- ---- answers
theorem dcnt_r {C : mCy} (ho : okC C) {l : Int} : rg (dcnt l (cd C)) := by
  have := dcnt_rg ho (l := l); exact ⟨by omega, by omega⟩
theorem fi_r {f : Int → Int} {v : Int} {m : Nat} (hm : m ≤ 10) : rg (fi f v 0 m) := by
  rcases fi_rg f v m 0 with q | q <;> exact ⟨by omega, by omega⟩
theorem ci_r {f : Int → Int} {v : Int} {m : Nat} (hm : m ≤ 10) : rg (ci f v 0 m) := by
  have := ci_rg f v m 0; exact ⟨by omega, by omega⟩
theorem rg_has {k : Int} (ho : okZ Z) (hP : Z.2.2.1.length ≤ 20) : rg (aHas Z k) := by
  have hn := ho.1.1
  have ht := ho.1.2.1
  have hd := ho.1.2.2.1.1
  have hh := ho.2.1.1
  have hm := ho.2.1.2.2.2.2.2.2
  have c1 := ci_r (f := ml Z.2.1) (v := -1) (m := (cn Z.1).toNat) (by omega)
  have c2 := ci_r (f := els (ml Z.2.1)) (v := 1) (m := (cn Z.1).toNat) (by omega)
  unfold aHas
  (repeat' split) <;> first | exact c1 | exact c2 | exact ⟨by omega, by omega⟩
theorem rg_person {p k : Int} (ho : okZ Z) : rg (aPerson Z p k) := by
  have hn := ho.1.1
  unfold aPerson
  split
  · next h =>
    have h1 := ho.1.2.2.2.1 p h.1 h.2
    have h2 := ho.2.1.2.1 p h.1 h.2
    have h3 := ho.2.1.2.2.2.1 p h.1 h.2
    have h4 := ho.1.2.2.2.2.2.1 p h.1 h.2
    have h5 := dcnt_r ho.1 (l := p)
    have h6 := fi_r (f := ml Z.2.1) (v := p) (m := (cn Z.1).toNat) (by omega)
    (repeat' split) <;> first | exact h5 | exact h6 | exact ⟨by omega, by omega⟩
  · exact ⟨by decide, by decide⟩
theorem rg_points {p l : Int} (ho : okZ Z) : rg (aPoints Z p l) := by
  unfold aPoints
  split
  · next h =>
    have := ho.2.1.2.2.2.2.1 p l h.1.1 h.1.2 h.2.1 h.2.2
    exact ⟨by omega, by omega⟩
  · exact ⟨by decide, by decide⟩
theorem rg_let {C : mCy} {kd w k : Int} (hs : okS C) : rg (aLet C kd w k) := by
  have key : ∀ l : List Int, okW l → rg (l.getD k.toNat 0) := by
    intro l hl
    have r := getD_rg (l := l) (lo := 0) (hi := 26) (fun a ha => by have := hl a ha; omega) k.toNat ⟨by decide, by decide⟩
    exact ⟨by omega, by omega⟩
  by_cases k0 : kd = 0
  · subst k0
    rw [aLet_0]
    by_cases c : (0 ≤ w ∧ w < cn C) ∧ (0 ≤ k ∧ k < 6)
    · rw [if_pos c]; exact key _ (hs.2.1 w c.1.1 c.1.2).1
    · rw [if_neg c]; exact ⟨by decide, by decide⟩
  by_cases k1 : kd = 1
  · subst k1
    rw [aLet_1]
    by_cases c : (0 ≤ w ∧ w < ct C) ∧ (0 ≤ k ∧ k < 6)
    · rw [if_pos c]; exact key _ (hs.2.2 w c.1.1 c.1.2).1
    · rw [if_neg c]; exact ⟨by decide, by decide⟩
  rw [aLet_n k0 k1]; exact ⟨by decide, by decide⟩
theorem rg_kept {k w : Int} (h : okEZ Z) : rg (aKept Z k w) := by
  unfold aKept
  split
  · next c =>
    have hl : k.toNat < (me Z.2.1).length := by omega
    have e : (me Z.2.1).getD k.toNat e0 = (me Z.2.1)[k.toNat] := by rw [List.getD_eq_getElem?_getD, List.getElem?_eq_getElem hl]; rfl
    obtain ⟨a, b, d, f⟩ := h.1 _ (List.getElem_mem hl)
    rw [e]
    unfold e4
    (repeat' split) <;> exact ⟨by omega, by omega⟩
  · exact ⟨by decide, by decide⟩
theorem rg_wave {p k : Int} (ho : okZ Z) : rg (aWave Z.1 Z.2.1 p k) := by
  have hn := ho.1.1
  unfold aWave
  split
  · next h =>
    have hl := ho.2.1.2.1 p h.1.1 h.1.2
    have hne := h.2
    obtain ⟨a, b⟩ := sendA_rg (lv := ml Z.2.1) (p := p) ho.1 ⟨by omega, hl.2⟩
    have c := wav_len (C := Z.1) 10 (lv := uf (ml Z.2.1) p (-1)) (left := ml Z.2.1 p) (mv := [])
    have c' : (sendA Z.1 (ml Z.2.1) p).2.2.length ≤ 10 := c
    have d := getD_rg (l := (sendA Z.1 (ml Z.2.1) p).2.2) (lo := 0) (hi := 10) (fun x hx => by have := b x hx; omega) k.toNat ⟨by decide, by decide⟩
    (repeat' split) <;> exact ⟨by omega, by omega⟩
  · exact ⟨by decide, by decide⟩
theorem rg_would {p k : Int} (ho : okZ Z) : rg (aWould Z.1 Z.2.1 p k) := by
  have hh := ho.2.1.1
  unfold aWould
  split
  · have hal : 0 ≤ aLeft Z.2.1 ∧ aLeft Z.2.1 ≤ 23 ∧ mh Z.2.1 + aLeft Z.2.1 ≤ 9999 := by unfold aLeft; omega
    obtain ⟨-, a, b, -, -⟩ := stK_hours (C := Z.1) ho.1 (aLeft Z.2.1).toNat (s0 (calM Z.1 Z.2.1 p)) hh.1 (by show mh Z.2.1 + _ ≤ 9999; omega)
    have a' : (0 : Int) ≤ (wouldS Z.1 Z.2.1 p).2.1.1 ∧ (wouldS Z.1 Z.2.1 p).2.1.1 ≤ 0 + 24 * ((aLeft Z.2.1).toNat : Int) := a
    have b' : (0 : Int) ≤ (wouldS Z.1 Z.2.1 p).2.1.2 ∧ (wouldS Z.1 Z.2.1 p).2.1.2 ≤ 0 + 24 * ((aLeft Z.2.1).toNat : Int) := b
    split <;> exact ⟨by omega, by omega⟩
  · exact ⟨by decide, by decide⟩
theorem rg_first {k : Int} (ho : okZ Z) : rg (aFirst Z k) := by
  have hh := ho.2.1.1
  unfold aFirst
  split
  · obtain ⟨⟨-, -, -, a, b⟩, c, d⟩ := stK_frs (C := Z.1) ho.1 72 (s0 Z.2.1) hh rfl
    have a' := a ⟨(by decide : (0 : Int) ≤ 0), (by decide : (0 : Int) ≤ 10)⟩
    have b' := b ⟨(by decide : (-1 : Int) ≤ -1), (by decide : (-1 : Int) ≤ 1)⟩
    generalize frsS Z.1 72 (s0 Z.2.1) = S at a' b' c d ⊢
    unfold frsA
    split
    · exact ⟨by decide, by decide⟩
    · next z =>
      have e : S.2.2.1.1 = mh S.1 := d.resolve_left z
      (repeat' split) <;> exact ⟨by omega, by omega⟩
  · exact ⟨by decide, by decide⟩
theorem rg_best {l k : Int} (ho : okZ Z) : rg (aBest Z l k) := by
  have hn := ho.1.1
  have hb := bst_rg (f := fun p => dob Z.1 p l (mp Z.2.1 p l) (mh Z.2.1 / 24)) (l := l) (fun p => dob_rg ho.1) (cn Z.1).toNat
  unfold aBest
  split
  · split <;> exact ⟨by omega, by omega⟩
  · exact ⟨by decide, by decide⟩
theorem rg_stud {C : mCy} {h p l : Int} : ∀ (f : Nat) (n pts : Int), 0 ≤ n → n + f ≤ 1000 → -1 ≤ stud C h p l f n pts ∧ stud C h p l f n pts ≤ 1000
  | 0, _, _, _, _ => ⟨(by decide : (-1 : Int) ≤ -1), (by decide : (-1 : Int) ≤ 1000)⟩
  | f + 1, n, pts, h0, h1 => by
    unfold stud
    split
    · omega
    · exact rg_stud f (n + 1) _ (by omega) (by omega)
theorem rg_study {p l : Int} : rg (aStudy Z p l) := by
  unfold aStudy
  split
  · have := rg_stud (C := Z.1) (h := mh Z.2.1) (p := p) (l := l) 100 0 (mp Z.2.1 p l) (by decide) (by decide)
    generalize stud Z.1 (mh Z.2.1) p l 100 0 (mp Z.2.1 p l) = q at this ⊢
    exact ⟨by omega, by omega⟩
  · exact ⟨by decide, by decide⟩
theorem rg_change {k : Int} (ho : okZ Z) : rg (aChange Z k) := by
  have hn := ho.1.1
  unfold aChange
  split
  · next c =>
    obtain ⟨n, hnn⟩ : ∃ n : Nat, (n : Int) = cn Z.1 := ⟨(cn Z.1).toNat, by omega⟩
    have hc := cst_ok (M := Z.2.1) ho.1
    rw [show (cn Z.1).toNat = n by omega] at hc ⊢
    split
    · have a := (FR_eq (by omega) hc n 0 ⟨by decide, by have : 0 < 2 ^ n := Nat.pow_pos (by decide); omega⟩ (by show (0 : Int) + (n : Int) = (n : Int); omega)).1
      have b := Rd_all (by omega) (by omega) hc
      exact ⟨by omega, by omega⟩
    · rcases cz_rg (x := mks (cst Z.1 Z.2.1) n k.toNat) (g := fun p => cst Z.1 Z.2.1 (k.toNat : Int) p + Rd (cst Z.1 Z.2.1) n (n - k.toNat - 1) (nx (mks (cst Z.1 Z.2.1) n k.toNat) p)) n with q | q
      · have q1 : wch (cst Z.1 Z.2.1) n k.toNat (mks (cst Z.1 Z.2.1) n k.toNat) = -1 := q.1
        rw [q1]; exact ⟨by decide, by decide⟩
      · have q1 : 0 ≤ wch (cst Z.1 Z.2.1) n k.toNat (mks (cst Z.1 Z.2.1) n k.toNat) := q.1
        have q2 : wch (cst Z.1 Z.2.1) n k.toNat (mks (cst Z.1 Z.2.1) n k.toNat) < (n : Int) := q.2.1
        exact ⟨by omega, by omega⟩
  · exact ⟨by decide, by decide⟩
theorem rg_rin {f : Int → Int} {p : Int} : ∀ (w : Nat) (k one : Int), 0 ≤ k → k + w ≤ 1000 → 0 ≤ rin f p w k one ∧ rin f p w k one ≤ 1000
  | 0, _, _, _, _ => ⟨(by decide : (0 : Int) ≤ 0), (by decide : (0 : Int) ≤ 1000)⟩
  | w + 1, k, one, h0, h1 => by
    unfold rin
    split
    · exact ⟨by decide, by decide⟩
    · split
      · omega
      · exact rg_rin w (k + 1) _ (by omega) (by omega)
theorem rg_ring {p : Int} : rg (aRing Z p) := by
  unfold aRing
  split
  · have := rg_rin (f := cc Z.1) (p := p) 10 1 p (by decide) (by decide)
    generalize rin (cc Z.1) p 10 1 p = q at this ⊢
    exact ⟨by omega, by omega⟩
  · exact ⟨by decide, by decide⟩
theorem rg_odds {p l n : Int} (ho : okZ Z) : rg (aOdds Z.1 p l n) := by
  have hn := ho.1.1
  unfold aOdds
  split
  · next c =>
    have hby := omi_by (C := Z.1) (p := p) (l := l)
    obtain ⟨w1, w2, w3⟩ := pw_bd (a := (cn Z.1).toNat) (b := omi Z.1 p l) (n := n.toNat) (by omega) (by omega) (by omega) (by omega)
    generalize (cn Z.1).toNat ^ n.toNat = A at w1 w2 w3
    generalize omi Z.1 p l ^ n.toNat = D at w1
    rw [Int.tdiv_eq_ediv_of_nonneg (by omega)]
    have h1 : 0 ≤ 1000 * ((A : Int) - (D : Int)) / (A : Int) := Int.ediv_nonneg (by omega) (by omega)
    have h2 : 1000 * ((A : Int) - (D : Int)) / (A : Int) ≤ 1000 * ((A : Int) - (D : Int)) := Int.ediv_le_self _ (by omega)
    exact ⟨by omega, by omega⟩
  · exact ⟨by decide, by decide⟩
theorem rg_go {k : Int} (ho : okZ Z) : rg (aGo Z k) := by
  have hh := ho.2.1.1
  unfold aGo
  split <;> exact ⟨by omega, by omega⟩
theorem rg_call {p : Int} : rg (aCall Z p) := by
  have c : (sendA Z.1 (ml Z.2.1) p).2.2.length ≤ 10 := wav_len (C := Z.1) 10 (lv := uf (ml Z.2.1) p (-1)) (left := ml Z.2.1 p) (mv := [])
  unfold aCall
  split <;> exact ⟨by omega, by omega⟩
theorem rg_teach {p l n : Int} (ho : okZ Z) : rg (aTeach Z p l n) := by
  unfold aTeach
  split
  · next c =>
    have := ho.2.1.2.2.2.2.1 p l c.1.1.1 c.1.1.2 c.1.2.1.1 c.1.2.1.2
    exact ⟨by omega, by omega⟩
  · exact ⟨by decide, by decide⟩
theorem rg_watch {p l : Int} : rg (aWatch Z p l) := by
  unfold aWatch; split <;> exact ⟨by decide, by decide⟩
theorem rg_undo : rg (aUndo Z) := by
  unfold aUndo; split <;> exact ⟨by decide, by decide⟩
theorem rg_could {p l t c : Int} (h : canD Z.1 Z.2.1 p l t c = 0 ∨ canD Z.1 Z.2.1 p l t c = 1) : rg (aCould Z p l t c) := by
  unfold aCould
  split
  · exact ⟨by omega, by omega⟩
  · exact ⟨by decide, by decide⟩
end

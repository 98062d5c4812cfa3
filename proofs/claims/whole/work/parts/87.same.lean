/-! who dried matters to nothing else -/
def eq3 (S S' : mSt) : Prop := S.1 = S'.1 ∧ S.2.1 = S'.2.1 ∧ S.2.2.1 = S'.2.2.1
theorem eq3_rfl {S : mSt} : eq3 S S := ⟨rfl, rfl, rfl⟩
theorem eq3.trans {S S' S'' : mSt} (h : eq3 S S') (k : eq3 S' S'') : eq3 S S'' := ⟨h.1.trans k.1, h.2.1.trans k.2.1, h.2.2.trans k.2.2⟩
theorem eq3.symm {S S' : mSt} (h : eq3 S S') : eq3 S' S := ⟨h.1.symm, h.2.1.symm, h.2.2.symm⟩
theorem eq3_fail {S S' : mSt} {w l p : Int} (h : eq3 S S') : eq3 (failX S w l p) (failX S' w l p) := by
  obtain ⟨M, a, b, d⟩ := S
  obtain ⟨M', a', b', d'⟩ := S'
  obtain ⟨h1, h2, h3⟩ := h
  obtain rfl : M = M' := h1
  obtain rfl : a = a' := h2
  obtain rfl : b = b' := h3
  exact ⟨rfl, rfl, rfl⟩
theorem eq3_duty {C : mCy} {clock day l task : Int} {S S' : mSt} (h : eq3 S S') : eq3 (dutyS C clock day S l task) (dutyS C clock day S' l task) := by
  have h1 := h.1
  unfold dutyS
  simp only
  rw [← h1]
  by_cases a : fi (ml S.1) l 0 (cn C).toNat = -1
  · rw [if_pos a, if_pos a]; exact eq3_fail h
  · rw [if_neg a, if_neg a]
    by_cases b : fi (ml S.1) l 0 (cn C).toNat = l
    · simp only [if_pos b]
      by_cases c : able C (mp S.1 (fi (ml S.1) l 0 (cn C).toNat) l) 1 task clock day = 0
      · rw [if_pos c, if_pos c]; exact eq3_fail h
      · rw [if_neg c, if_neg c]; exact h
    · simp only [if_neg b]
      by_cases c : able C (mp S.1 (fi (ml S.1) l 0 (cn C).toNat) l) 0 task clock day = 0
      · rw [if_pos c, if_pos c]; exact eq3_fail h
      · rw [if_neg c, if_neg c]; exact ⟨rfl, h.2.1, h.2.2⟩
theorem eq3_stD {C : mCy} {clock day : Int} {d : Int × Int × Int} {S S' : mSt} (h : eq3 S S') : eq3 (stD C clock day S d) (stD C clock day S' d) := by
  unfold stD
  split
  · exact eq3_duty h
  · exact h
theorem eq3_fold {C : mCy} {clock day : Int} : ∀ (D : List (Int × Int × Int)) {S S' : mSt}, eq3 S S' → eq3 (D.foldl (stD C clock day) S) (D.foldl (stD C clock day) S')
  | [], _, _, h => h
  | _ :: D, _, _, h => eq3_fold D (eq3_stD h)
theorem eq3_hour {C : mCy} {S S' : mSt} (h : eq3 S S') : eq3 (hourS C S) (hourS C S') := by
  obtain ⟨M, t⟩ := S
  obtain ⟨M', t'⟩ := S'
  obtain ⟨h1, h2, h3⟩ := h
  obtain rfl : M = M' := h1
  have k := eq3_fold (C := C) (clock := (mh M + 1) % 24) (day := (mh M + 1) / 24) (srt (cn C).toNat (cd C)) (S := (if (mh M + 1) % 24 = 0 then nightM C ((mh M + 1, ml M, mw M, mp M, me M) : mMo) ((mh M + 1) / 24) else (mh M + 1, ml M, mw M, mp M, me M), t)) (S' := (if (mh M + 1) % 24 = 0 then nightM C ((mh M + 1, ml M, mw M, mp M, me M) : mMo) ((mh M + 1) / 24) else (mh M + 1, ml M, mw M, mp M, me M), t')) ⟨rfl, h2, h3⟩
  exact ⟨congrArg (itr (watM C ((mh M + 1) % 24) ((mh M + 1) / 24)) 0 (cn C).toNat) k.1, k.2.1, k.2.2⟩
/-- hours of both: the same moment, the same counts, the same first failure -/
theorem hoursQ_S {C : mCy} : ∀ (k : Nat) {S S' : mSt}, eq3 S S' → eq3 (hoursQ C k S) (hoursS C k S')
  | 0, _, _, h => h
  | k + 1, S, S', h => hoursQ_S k (S := hourS C S) (S' := hourS C (S'.1, S'.2.1, S'.2.2.1, fun _ => 0)) (eq3_hour h)

section
variable {p : Program} {l : Launch} {e : Env} {R : Room} {s : State} {m : MethodId} {args : Array Value} {below : List Frame} {meth : Method} {c : Code} {H : Heap} {locs : List Loc} {cells slots : Nat} {Q : State → Prop} {D : va_G} {tc : Nat → ClassId} {sv : Nat → Value} {b : Nat} {X : mX} {mt : mT}
theorem a_fv {y pc : Nat} {q : mI × Nat} (h : a_fetch y pc = some q) : ∃ mt i len, a_mt[y]? = some mt ∧ decode mt.2.1 pc = .ok (i, len) ∧ a_rsv mt pc i len = some q := by
  unfold a_fetch at h
  split at h
  · exact (a_no h).elim
  · rename_i mt hm
    split at h
    · rename_i q0 hq
      exact ⟨mt, q0.1, q0.2, hm, hq, h⟩
    · exact (a_no h).elim
/-- where a method ends: the instruction there, and the method's type -/
def a_rok (mt : mT) (pc : Nat) : Option Value → Prop
  | none => decode mt.2.1 pc = .ok (.return_, 1) ∧ mt.2.2.2.1 = none
  | some (.int x) => decode mt.2.1 pc = .ok (.ireturn, 1) ∧ ∃ ty, mt.2.2.2.1 = some ty ∧ narrow ty (.int x) = .int x
  | some (.long _) => decode mt.2.1 pc = .ok (.lreturn, 1) ∧ mt.2.2.2.1 = some .long
  | some .null => decode mt.2.1 pc = .ok (.areturn, 1) ∧ ∃ n, mt.2.2.2.1 = some (.object n)
  | some (.ref _) => decode mt.2.1 pc = .ok (.areturn, 1) ∧ ∃ n, mt.2.2.2.1 = some (.object n)
  | _ => False
set_option maxHeartbeats 4000000 in
set_option maxRecDepth 100000 in
theorem a_Srt {y : Nat} (hmt : a_mt[y]? = some mt) {i i' : mI} {len nx pc : Nat} {st : List Value} {v : Option Value} (hd : decode mt.2.1 pc = .ok (i, len)) (hr : a_rsv mt pc i len = some (i', nx)) (h : a_ret y i' st = some v) : a_rok mt pc v ∧ st = v.toList := by
  cases i with
  | ireturn =>
    obtain ⟨rfl, rfl, rfl⟩ := a_c1v hr
    simp only [a_ret, hmt] at h
    split at h
    · rename_i x m1 h1
      cases h1
      split at h
      · rename_i ht
        cases h
        exact ⟨⟨hd, .int, ht, rfl⟩, rfl⟩
      · rename_i ht
        split at h
        · rename_i hx
          cases h
          refine ⟨⟨hd, .boolean, ht, ?_⟩, rfl⟩
          rcases hx with rfl | rfl <;> decide
        · exact (a_no h).elim
      · rename_i ht
        split at h
        · rename_i hx
          cases h
          refine ⟨⟨hd, .byte, ht, ?_⟩, rfl⟩
          rcases hx with rfl | rfl <;> decide
        · exact (a_no h).elim
      · rename_i ht
        split at h
        · rename_i hx
          cases h
          exact ⟨⟨hd, .char, ht, hx⟩, rfl⟩
        · exact (a_no h).elim
      · exact (a_no h).elim
    · exact (a_no h).elim
  | lreturn =>
    obtain ⟨rfl, rfl, rfl⟩ := a_c1v hr
    simp only [a_ret, hmt] at h
    split at h
    · rename_i x m1 h1
      cases h1
      split at h
      · rename_i ht
        cases h
        exact ⟨⟨hd, ht⟩, rfl⟩
      · exact (a_no h).elim
    · exact (a_no h).elim
  | areturn =>
    obtain ⟨rfl, rfl, rfl⟩ := a_c1v hr
    simp only [a_ret, hmt] at h
    split at h
    · rename_i x m1 h1
      cases h1
      split at h
      · rename_i n0 ht
        cases h
        exact ⟨⟨hd, n0, ht⟩, rfl⟩
      · exact (a_no h).elim
    · rename_i m1 h1
      cases h1
      split at h
      · rename_i n0 ht
        cases h
        exact ⟨⟨hd, n0, ht⟩, rfl⟩
      · exact (a_no h).elim
    · exact (a_no h).elim
  | return_ =>
    obtain ⟨rfl, rfl, rfl⟩ := a_c1v hr
    simp only [a_ret, hmt] at h
    split at h
    · rename_i m1 h1
      cases h1
      split at h
      · rename_i ht
        cases h
        exact ⟨⟨hd, ht⟩, rfl⟩
      · exact (a_no h).elim
    · exact (a_no h).elim
  | _ =>
    first
      | exact (a_no hr).elim
      | (obtain ⟨rfl, rfl, rfl⟩ := a_c1v hr; exact (a_no h).elim)
      | (simp only [a_rsv, a_tg] at hr; (repeat' split at hr) <;> first | exact (a_no hr).elim | (cases hr; exact (a_no h).elim) | (obtain ⟨rfl, rfl, rfl⟩ := a_c1v hr; exact (a_no h).elim))
theorem a_stpv {i : mI} {nx : Nat} {L : mL} {st : List Value} {n z : Nat} {M : mM} {t : mS} (h : a_stp X i nx L st n z M = some t) :
    (∃ st', a_stk i st = some st' ∧ t = (nx, L, st', n, z, M)) ∨ (∃ q, a_lo i L st = some q ∧ t = (nx, q.1, q.2, n, z, M)) ∨ (∃ st', a_rd X i st M = some st' ∧ t = (nx, L, st', n, z, M)) ∨ (∃ q, a_wr i st M = some q ∧ t = (nx, L, q.1, n, z, q.2)) ∨ (∃ q, a_nw i st n = some q ∧ t = (nx, L, q.1, n + 1, z + q.2.2, a_up M n q.2.1)) ∨ (∃ q, a_br i nx st = some q ∧ t = (q.1, L, q.2, n, z, M)) := by
  unfold a_stp at h
  split at h
  · rename_i st' h1; cases h; exact Or.inl ⟨st', h1, rfl⟩
  · split at h
    · rename_i q h1; cases h; exact Or.inr (Or.inl ⟨q, h1, rfl⟩)
    · split at h
      · rename_i q h1; cases h; exact Or.inr (Or.inr (Or.inl ⟨q, h1, rfl⟩))
      · split at h
        · rename_i q h1; cases h; exact Or.inr (Or.inr (Or.inr (Or.inl ⟨q, h1, rfl⟩)))
        · split at h
          · rename_i q h1; cases h; exact Or.inr (Or.inr (Or.inr (Or.inr (Or.inl ⟨q, h1, rfl⟩))))
          · split at h
            · rename_i q h1; cases h; exact Or.inr (Or.inr (Or.inr (Or.inr (Or.inr ⟨q, h1, rfl⟩))))
            · exact (a_no h).elim
theorem a_lo_len {i : mI} {L : mL} {st : List Value} {q : mL × List Value} (h : a_lo i L st = some q) : q.1.length = L.length := by
  cases i <;> first
    | exact (a_no h).elim
    | (simp only [a_lo] at h; (repeat' split at h) <;> first | exact (a_no h).elim | (cases h; rfl) | (cases h; exact a_s1_len _ _ _) | (cases h; exact a_s2_len _ _ _))
end

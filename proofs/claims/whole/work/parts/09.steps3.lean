section
variable {p : Program} {l : Launch} {e : Env} {R : Room} {s : State} {m : MethodId} {args : Array Value} {below : List Frame} {meth : Method} {c : Code} {H : Heap} {locs : List Loc} {cells slots : Nat} {Q : State → Prop} {D : va_G} {tc : Nat → ClassId} {sv : Nat → Value} {b : Nat} {X : mX} {mt : mT}
theorem a_tgv {pc : Nat} {off : Int} {f : Int → mI} {q : mI × Nat} (h : a_tg pc off f = some q) : 0 ≤ (pc : Int) + off ∧ q = (f ((pc : Int) + off), pc + 3) := by
  unfold a_tg at h
  split at h
  · cases h; exact ⟨by assumption, rfl⟩
  · exact (a_no h).elim
theorem a_nn {z : Int} (h : 0 ≤ z) : z = (z.toNat : Int) := (Int.toNat_of_nonneg h).symm
set_option maxHeartbeats 4000000 in
set_option maxRecDepth 100000 in
theorem a_Sbr (C0 : a_cx p s m args meth c D tc sv b X mt) {i i' : mI} {len nx pc : Nat} {st : List Value} {q : Nat × List Value} {ls : Array Slot} (hd : decode mt.2.1 pc = .ok (i, len)) (hr : a_rsv mt pc i len = some (i', nx)) (h : a_br i' nx st = some q) (k : W p l e R s m args below meth c H locs cells slots Q (F0 m q.1 ls (q.2.map (a_cv sv b)))) : W p l e R s m args below meth c H locs cells slots Q (F0 m pc ls (st.map (a_cv sv b))) := by
  obtain ⟨hx, hb, hml, hown, hnm, hts, hK, hout, hbs, hon, hsv⟩ := C0
  cases i with
  | ifCond cc off =>
    simp only [a_rsv] at hr
    split at hr
    · rename_i hlen
      subst hlen
      obtain ⟨h0, hq⟩ := a_tgv hr
      cases hq
      simp only [a_br] at h
      split at h
      · cases h
        cases cc with
        | eq =>
          refine lv_if_eq hx hb hd (a_nn h0) (fun hq => ?_) (fun hq => ?_)
          · rw [if_pos (by simp [a_tb, hq])] at k; exact k
          · rw [if_neg (by simp [a_tb, hq])] at k; exact k
        | ne =>
          refine lv_if_ne hx hb hd (a_nn h0) (fun hq => ?_) (fun hq => ?_)
          · rw [if_pos (by simp [a_tb, hq])] at k; exact k
          · rw [if_neg (by simp [a_tb, hq])] at k; exact k
        | lt =>
          refine lv_if_lt hx hb hd (a_nn h0) (fun hq => ?_) (fun hq => ?_)
          · rw [if_pos (by simp [a_tb, hq])] at k; exact k
          · rw [if_neg (by simp [a_tb, hq])] at k; exact k
        | ge =>
          refine lv_if_ge hx hb hd (a_nn h0) (fun hq => ?_) (fun hq => ?_)
          · rw [if_pos (by simp [a_tb, hq])] at k; exact k
          · rw [if_neg (by simp [a_tb, hq])] at k; exact k
        | gt =>
          refine lv_if_gt hx hb hd (a_nn h0) (fun hq => ?_) (fun hq => ?_)
          · rw [if_pos (by simp [a_tb, hq])] at k; exact k
          · rw [if_neg (by simp [a_tb, hq])] at k; exact k
        | le =>
          refine lv_if_le hx hb hd (a_nn h0) (fun hq => ?_) (fun hq => ?_)
          · rw [if_pos (by simp [a_tb, hq])] at k; exact k
          · rw [if_neg (by simp [a_tb, hq])] at k; exact k
      · exact (a_no h).elim
    · exact (a_no hr).elim
  | if_icmp cc off =>
    simp only [a_rsv] at hr
    split at hr
    · rename_i hlen
      subst hlen
      obtain ⟨h0, hq⟩ := a_tgv hr
      cases hq
      simp only [a_br] at h
      split at h
      · cases h
        cases cc with
        | eq =>
          refine lv_icmp_eq hx hb hd (a_nn h0) (fun hq => ?_) (fun hq => ?_)
          · rw [if_pos (by simp [a_tb, hq])] at k; exact k
          · rw [if_neg (by simp [a_tb, hq])] at k; exact k
        | ne =>
          refine lv_icmp_ne hx hb hd (a_nn h0) (fun hq => ?_) (fun hq => ?_)
          · rw [if_pos (by simp [a_tb, hq])] at k; exact k
          · rw [if_neg (by simp [a_tb, hq])] at k; exact k
        | lt =>
          refine lv_icmp_lt hx hb hd (a_nn h0) (fun hq => ?_) (fun hq => ?_)
          · rw [if_pos (by simp [a_tb, hq])] at k; exact k
          · rw [if_neg (by simp [a_tb, hq])] at k; exact k
        | ge =>
          refine lv_icmp_ge hx hb hd (a_nn h0) (fun hq => ?_) (fun hq => ?_)
          · rw [if_pos (by simp [a_tb, hq])] at k; exact k
          · rw [if_neg (by simp [a_tb, hq])] at k; exact k
        | gt =>
          refine lv_icmp_gt hx hb hd (a_nn h0) (fun hq => ?_) (fun hq => ?_)
          · rw [if_pos (by simp [a_tb, hq])] at k; exact k
          · rw [if_neg (by simp [a_tb, hq])] at k; exact k
        | le =>
          refine lv_icmp_le hx hb hd (a_nn h0) (fun hq => ?_) (fun hq => ?_)
          · rw [if_pos (by simp [a_tb, hq])] at k; exact k
          · rw [if_neg (by simp [a_tb, hq])] at k; exact k
      · exact (a_no h).elim
    · exact (a_no hr).elim
  | goto off =>
    simp only [a_rsv] at hr
    split at hr
    · rename_i hlen
      subst hlen
      obtain ⟨h0, hq⟩ := a_tgv hr
      cases hq
      cases h
      exact lv_goto hx hb hd (a_nn h0) k
    · exact (a_no hr).elim
  | ifnull off =>
    simp only [a_rsv] at hr
    split at hr
    · rename_i hlen
      subst hlen
      obtain ⟨h0, hq⟩ := a_tgv hr
      cases hq
      simp only [a_br] at h
      split at h
      · cases h
        exact lv_ifnull hx hb hd k
      · cases h
        exact lv_ifnullN hx hb hd (a_nn h0) k
      · exact (a_no h).elim
    · exact (a_no hr).elim
  | ifnonnull off =>
    simp only [a_rsv] at hr
    split at hr
    · rename_i hlen
      subst hlen
      obtain ⟨h0, hq⟩ := a_tgv hr
      cases hq
      simp only [a_br] at h
      split at h
      · cases h
        exact lv_ifnonnull hx hb hd (a_nn h0) k
      · cases h
        exact lv_ifnonnullN hx hb hd k
      · exact (a_no h).elim
    · exact (a_no hr).elim
  | tableswitch d lo hi offs =>
    simp only [a_rsv] at hr
    split at hr
    · rename_i h0
      cases hr
      simp only [a_br] at h
      split at h
      · split at h
        · rename_i hq
          cases h
          exact lv_tableOut hx hb hd hq (a_nn h0.1) k
        · rename_i hq
          split at h
          · rename_i o ho
            cases h
            rw [Array.getElem?_map] at ho
            cases ho2 : offs[(Int32.toInt (by assumption) - lo).toNat]? with
            | none => rw [ho2] at ho; exact (a_no ho).elim
            | some o2 =>
              rw [ho2] at ho
              cases ho
              have hm : o2 ∈ offs.toList := by
                rw [← Array.getElem?_toList] at ho2
                exact List.mem_of_getElem? ho2
              have h2 := List.all_eq_true.mp h0.2 o2 hm
              exact lv_tableIn hx hb hd (fun z => hq (Or.inl z)) (fun z => hq (Or.inr z)) ho2 (a_nn (by simpa using h2)) k
          · exact (a_no h).elim
      · exact (a_no h).elim
    · exact (a_no hr).elim
  | lookupswitch d ps =>
    simp only [a_rsv] at hr
    split at hr
    · rename_i h0
      cases hr
      simp only [a_br] at h
      split at h
      · cases h
        refine lv_lookup (off := d) hx hb hd (by rw [h0.2]; rfl) (by rw [h0.2]; rfl) (a_nn h0.1) k
      · exact (a_no h).elim
    · exact (a_no hr).elim
  | _ =>
    first
      | exact (a_no hr).elim
      | (obtain ⟨rfl, rfl, rfl⟩ := a_c1v hr; exact (a_no h).elim)
      | (simp only [a_rsv, a_tg] at hr; (repeat' split at hr) <;> first | exact (a_no hr).elim | (cases hr; exact (a_no h).elim) | (obtain ⟨rfl, rfl, rfl⟩ := a_c1v hr; exact (a_no h).elim))
end

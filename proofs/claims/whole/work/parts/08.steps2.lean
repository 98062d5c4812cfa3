section
variable {p : Program} {l : Launch} {e : Env} {R : Room} {s : State} {m : MethodId} {args : Array Value} {below : List Frame} {meth : Method} {c : Code} {H : Heap} {locs : List Loc} {cells slots : Nat} {Q : State → Prop} {D : va_G} {tc : Nat → ClassId} {sv : Nat → Value} {b : Nat} {X : mX} {mt : mT}
def a_al (sv : Nat → Value) (b : Nat) : Nat → mL → List (Nat × Value)
  | _, [] => []
  | i, some v :: t => (i, a_cv sv b v) :: a_al sv b (i + 1) t
  | i, none :: t => a_al sv b (i + 1) t
theorem a_al_mem {L : mL} : ∀ (i : Nat) (q : Nat × Value), q ∈ a_al sv b i L → ∃ k v, q.1 = i + k ∧ a_lg L k = some v ∧ q.2 = a_cv sv b v := by
  induction L with
  | nil => intro i q h; cases h
  | cons o t ih =>
    intro i q h
    cases o with
    | none =>
      obtain ⟨k, v, h1, h2, h3⟩ := ih (i + 1) q h
      exact ⟨k + 1, v, by omega, h2, h3⟩
    | some w =>
      rcases List.mem_cons.mp h with rfl | h
      · exact ⟨0, w, rfl, rfl, rfl⟩
      · obtain ⟨k, v, h1, h2, h3⟩ := ih (i + 1) q h
        exact ⟨k + 1, v, by omega, h2, h3⟩
theorem a_mem_al {L : mL} : ∀ (i k : Nat) (v : Value), a_lg L k = some v → (i + k, a_cv sv b v) ∈ a_al sv b i L := by
  induction L with
  | nil => intro i k v h; cases h
  | cons o t ih =>
    intro i k v h
    cases k with
    | zero =>
      cases h
      exact List.mem_cons_self
    | succ k =>
      have h1 := ih (i + 1) k v h
      have e : i + 1 + k = i + (k + 1) := by omega
      rw [e] at h1
      cases o with
      | none => exact h1
      | some w => exact List.mem_cons_of_mem _ h1
theorem a_lh.has {ls : Array Slot} {L : mL} (h : a_lh sv b ls L) : lv_has ls L.length (a_al sv b 0 L) := by
  refine ⟨h.1, h.2.1, fun q hq => ?_⟩
  obtain ⟨k, v, h1, h2, h3⟩ := a_al_mem 0 q hq
  rw [h1, h3, Nat.zero_add]
  exact h.2.2 k v h2
theorem a_s1_len (L : mL) : ∀ (i : Nat) (v : Value), (a_s1 L i v).length = L.length := by
  induction L with
  | nil => intro i v; rfl
  | cons o t ih =>
    intro i v
    match i with
    | 0 => rfl
    | 1 => simp only [a_s1, List.length_cons, ih]
    | k + 2 => simp only [a_s1, List.length_cons, ih]
theorem a_s2_len (L : mL) : ∀ (i : Nat) (v : Value), (a_s2 L i v).length = L.length := by
  induction L with
  | nil => intro i v; rfl
  | cons o t ih =>
    intro i v
    match i, t with
    | 0, [] => rfl
    | 0, _ :: _ => rfl
    | 1, [] => rfl
    | 1, a :: t => simp only [a_s2, List.length_cons, ih]
    | k + 2, [] => rfl
    | k + 2, a :: t => simp only [a_s2, List.length_cons, ih]
theorem a_s1_get (L : mL) : ∀ (i : Nat) (v : Value) (j : Nat) (w : Value), a_lg (a_s1 L i v) j = some w → (j = i ∧ w = v) ∨ (j ≠ i ∧ a_lg L j = some w ∧ (j + 1 = i → a_dp (some w) = some w)) := by
  induction L with
  | nil => intro i v j w h; cases h
  | cons o t ih =>
    intro i v j w h
    match i, j with
    | 0, 0 => cases h; exact Or.inl ⟨rfl, rfl⟩
    | 0, j + 1 => exact Or.inr ⟨by omega, h, fun h1 => by omega⟩
    | 1, 0 =>
      have h1 : a_dp o = some w := h
      refine Or.inr ⟨by omega, ?_, fun _ => ?_⟩
      · show o = some w
        unfold a_dp at h1
        split at h1
        · exact (a_no h1).elim
        · exact (a_no h1).elim
        · exact h1
      · unfold a_dp at h1
        split at h1
        · exact (a_no h1).elim
        · exact (a_no h1).elim
        · rename_i q1 q2
          rw [h1] at q1 q2
          unfold a_dp
          split
          · rename_i x hx; exact (q1 x hx).elim
          · rename_i x hx; exact (q2 x hx).elim
          · rfl
    | 1, j + 1 =>
      have h1 : a_lg (a_s1 t 0 v) j = some w := h
      rcases ih 0 v j w h1 with ⟨e1, e2⟩ | ⟨e1, e2, e3⟩
      · exact Or.inl ⟨by omega, e2⟩
      · exact Or.inr ⟨by omega, e2, fun q => by omega⟩
    | k + 2, 0 => exact Or.inr ⟨by omega, h, fun q => by omega⟩
    | k + 2, j + 1 =>
      have h1 : a_lg (a_s1 t (k + 1) v) j = some w := h
      rcases ih (k + 1) v j w h1 with ⟨e1, e2⟩ | ⟨e1, e2, e3⟩
      · exact Or.inl ⟨by omega, e2⟩
      · exact Or.inr ⟨by omega, e2, fun q => e3 (by omega)⟩
theorem a_s2_get (L : mL) : ∀ (i : Nat) (v : Value) (j : Nat) (w : Value), a_lg (a_s2 L i v) j = some w → (j = i ∧ w = v) ∨ (j ≠ i ∧ j ≠ i + 1 ∧ a_lg L j = some w ∧ (j + 1 = i → a_dp (some w) = some w)) := by
  induction L with
  | nil => intro i v j w h; cases h
  | cons o t ih =>
    intro i v j w h
    match i, j, t with
    | 0, 0, [] => cases h; exact Or.inl ⟨rfl, rfl⟩
    | 0, j + 1, [] => exact (a_no h).elim
    | 0, 0, _ :: _ => cases h; exact Or.inl ⟨rfl, rfl⟩
    | 0, 1, _ :: _ => exact (a_no h).elim
    | 0, j + 2, _ :: _ => exact Or.inr ⟨by omega, by omega, h, fun h1 => by omega⟩
    | 1, j + 1, [] => exact (a_no h).elim
    | 1, 0, t =>
      have h1 : a_dp o = some w := by cases t <;> exact h
      refine Or.inr ⟨by omega, by omega, ?_, fun _ => ?_⟩
      · show o = some w
        unfold a_dp at h1
        split at h1
        · exact (a_no h1).elim
        · exact (a_no h1).elim
        · exact h1
      · unfold a_dp at h1
        split at h1
        · exact (a_no h1).elim
        · exact (a_no h1).elim
        · rename_i q1 q2
          rw [h1] at q1 q2
          unfold a_dp
          split
          · rename_i x hx; exact (q1 x hx).elim
          · rename_i x hx; exact (q2 x hx).elim
          · rfl
    | 1, j + 1, a :: t =>
      have h1 : a_lg (a_s2 (a :: t) 0 v) j = some w := h
      rcases ih 0 v j w h1 with ⟨e1, e2⟩ | ⟨e1, e4, e2, e3⟩
      · exact Or.inl ⟨by omega, e2⟩
      · exact Or.inr ⟨by omega, by omega, e2, fun q => by omega⟩
    | k + 2, 0, t =>
      have h1 : o = some w := by cases t <;> exact h
      exact Or.inr ⟨by omega, by omega, h1, fun q => by omega⟩
    | k + 2, j + 1, [] => exact (a_no h).elim
    | k + 2, j + 1, a :: t =>
      have h1 : a_lg (a_s2 (a :: t) (k + 1) v) j = some w := h
      rcases ih (k + 1) v j w h1 with ⟨e1, e2⟩ | ⟨e1, e4, e2, e3⟩
      · exact Or.inl ⟨by omega, e2⟩
      · exact Or.inr ⟨by omega, by omega, e2, fun q => e3 (by omega)⟩
theorem a_dp2 (hsv : a_svk sv) {w : Value} (h : a_dp (some w) = some w) : ¬ (a_cv sv b w).category = 2 := by
  cases w with
  | long _ => exact (a_no h).elim
  | double _ => exact (a_no h).elim
  | retAddr k => rcases hsv k with q | ⟨a, q⟩ <;> simp [a_cv, q, Value.category]
  | _ => simp [a_cv, Value.category]
theorem a_lh.s1 (hsv : a_svk sv) {ls' : Array Slot} {L : mL} {i : Nat} {v : Value} (h : lv_has ls' L.length ((i, a_cv sv b v) :: (a_al sv b 0 L).filter (fun q => !(q.1 == i) && !(q.1 + 1 == i && q.2.category == 2)))) : a_lh sv b ls' (a_s1 L i v) := by
  refine ⟨by rw [a_s1_len]; exact h.1, h.2.1, fun j w hj => ?_⟩
  rcases a_s1_get L i v j w hj with ⟨rfl, rfl⟩ | ⟨e1, e2, e3⟩
  · exact h.2.2 _ List.mem_cons_self
  · refine h.2.2 (j, a_cv sv b w) (List.mem_cons_of_mem _ (List.mem_filter.mpr ⟨?_, ?_⟩))
    · have := a_mem_al (sv := sv) (b := b) 0 j w e2
      rwa [Nat.zero_add] at this
    · simp only [Bool.and_eq_true, Bool.not_eq_true', beq_eq_false_iff_ne, ne_eq, Bool.and_eq_false_iff]
      refine ⟨e1, ?_⟩
      by_cases hq : j + 1 = i
      · exact Or.inr (a_dp2 hsv (e3 hq))
      · exact Or.inl hq
theorem a_lh.s2 (hsv : a_svk sv) {ls' : Array Slot} {L : mL} {i : Nat} {v : Value} (h : lv_has ls' L.length ((i, a_cv sv b v) :: (a_al sv b 0 L).filter (fun q => !(q.1 == i) && (!(q.1 == i + 1) && !(q.1 + 1 == i && q.2.category == 2))))) : a_lh sv b ls' (a_s2 L i v) := by
  refine ⟨by rw [a_s2_len]; exact h.1, h.2.1, fun j w hj => ?_⟩
  rcases a_s2_get L i v j w hj with ⟨rfl, rfl⟩ | ⟨e1, e4, e2, e3⟩
  · exact h.2.2 _ List.mem_cons_self
  · refine h.2.2 (j, a_cv sv b w) (List.mem_cons_of_mem _ (List.mem_filter.mpr ⟨?_, ?_⟩))
    · have := a_mem_al (sv := sv) (b := b) 0 j w e2
      rwa [Nat.zero_add] at this
    · simp only [Bool.and_eq_true, Bool.not_eq_true', beq_eq_false_iff_ne, ne_eq, Bool.and_eq_false_iff]
      refine ⟨e1, e4, ?_⟩
      by_cases hq : j + 1 = i
      · exact Or.inr (a_dp2 hsv (e3 hq))
      · exact Or.inl hq
set_option maxHeartbeats 4000000 in
set_option maxRecDepth 100000 in
theorem a_Slo (C0 : a_cx p s m args meth c D tc sv b X mt) {i i' : mI} {len nx pc : Nat} {st : List Value} {L : mL} {q : mL × List Value} {ls : Array Slot} (hl : a_lh sv b ls L) (hd : decode mt.2.1 pc = .ok (i, len)) (hr : a_rsv mt pc i len = some (i', nx)) (h : a_lo i' L st = some q) (k : ∀ ls', a_lh sv b ls' q.1 → W p l e R s m args below meth c H locs cells slots Q (F0 m nx ls' (q.2.map (a_cv sv b)))) : W p l e R s m args below meth c H locs cells slots Q (F0 m pc ls (st.map (a_cv sv b))) := by
  obtain ⟨hx, hb, hml, hown, hnm, hts, hK, hout, hbs, hon, hsv⟩ := C0
  cases i with
  | iload_n v =>
    obtain ⟨rfl, rfl, rfl⟩ := a_c1v hr
    simp only [a_lo] at h
    split at h
    · rename_i x hv
      cases h
      exact lv_iload_n hx hb hd rfl (hl.2.2 _ _ hv) (k ls hl)
    · exact (a_no h).elim
  | iload v =>
    obtain ⟨rfl, rfl, rfl⟩ := a_c1v hr
    simp only [a_lo] at h
    split at h
    · rename_i x hv
      cases h
      exact lv_iload hx hb hd (hl.2.2 _ _ hv) (k ls hl)
    · exact (a_no h).elim
  | lload_n v =>
    obtain ⟨rfl, rfl, rfl⟩ := a_c1v hr
    simp only [a_lo] at h
    split at h
    · rename_i x hv
      cases h
      exact lv_lload_n hx hb hd rfl (hl.2.2 _ _ hv) (k ls hl)
    · exact (a_no h).elim
  | lload v =>
    obtain ⟨rfl, rfl, rfl⟩ := a_c1v hr
    simp only [a_lo] at h
    split at h
    · rename_i x hv
      cases h
      exact lv_lload hx hb hd (hl.2.2 _ _ hv) (k ls hl)
    · exact (a_no h).elim
  | aload_n v =>
    obtain ⟨rfl, rfl, rfl⟩ := a_c1v hr
    simp only [a_lo] at h
    split at h
    · rename_i x hv
      cases h
      exact lv_aload_n hx hb hd rfl (hl.2.2 _ _ hv) (k ls hl)
    · rename_i hv
      cases h
      exact lv_aload_nN hx hb hd rfl (hl.2.2 _ _ hv) (k ls hl)
    · rename_i x hv
      cases h
      have h2 := hl.2.2 _ _ hv
      have k2 := k ls hl
      simp only [List.map_cons, a_cv] at h2 k2
      rcases hsv x with q | ⟨a, q⟩
      · rw [q] at h2 k2
        exact lv_aload_nN hx hb hd rfl h2 k2
      · rw [q] at h2 k2
        exact lv_aload_n hx hb hd rfl h2 k2
    · exact (a_no h).elim
  | aload v =>
    obtain ⟨rfl, rfl, rfl⟩ := a_c1v hr
    simp only [a_lo] at h
    split at h
    · rename_i x hv
      cases h
      exact lv_aload hx hb hd (hl.2.2 _ _ hv) (k ls hl)
    · rename_i hv
      cases h
      exact lv_aloadN hx hb hd (hl.2.2 _ _ hv) (k ls hl)
    · rename_i x hv
      cases h
      have h2 := hl.2.2 _ _ hv
      have k2 := k ls hl
      simp only [List.map_cons, a_cv] at h2 k2
      rcases hsv x with q | ⟨a, q⟩
      · rw [q] at h2 k2
        exact lv_aloadN hx hb hd h2 k2
      · rw [q] at h2 k2
        exact lv_aload hx hb hd h2 k2
    · exact (a_no h).elim
  | istore_n v =>
    obtain ⟨rfl, rfl, rfl⟩ := a_c1v hr
    simp only [a_lo] at h
    split at h
    · split at h
      · rename_i hn
        cases h
        exact lv_istore_n hx hb hd rfl hl.has hn rfl (fun ls' h' => k ls' (a_lh.s1 hsv h'))
      · exact (a_no h).elim
    · exact (a_no h).elim
  | lstore_n v =>
    obtain ⟨rfl, rfl, rfl⟩ := a_c1v hr
    simp only [a_lo] at h
    split at h
    · split at h
      · rename_i hn
        cases h
        exact lv_lstore_n hx hb hd rfl hl.has hn rfl (fun ls' h' => k ls' (a_lh.s2 hsv h'))
      · exact (a_no h).elim
    · exact (a_no h).elim
  | astore_n v =>
    obtain ⟨rfl, rfl, rfl⟩ := a_c1v hr
    simp only [a_lo] at h
    split at h
    · split at h
      · rename_i hn
        cases h
        exact lv_astore_n hx hb hd rfl hl.has hn rfl (fun ls' h' => k ls' (a_lh.s1 hsv h'))
      · exact (a_no h).elim
    · split at h
      · rename_i hn
        cases h
        exact lv_astore_nN hx hb hd rfl hl.has hn rfl (fun ls' h' => k ls' (a_lh.s1 hsv h'))
      · exact (a_no h).elim
    · exact (a_no h).elim
  | istore v =>
    obtain ⟨rfl, rfl, rfl⟩ := a_c1v hr
    simp only [a_lo] at h
    split at h
    · split at h
      · rename_i hn
        cases h
        exact lv_istore hx hb hd hl.has hn rfl (fun ls' h' => k ls' (a_lh.s1 hsv h'))
      · exact (a_no h).elim
    · exact (a_no h).elim
  | lstore v =>
    obtain ⟨rfl, rfl, rfl⟩ := a_c1v hr
    simp only [a_lo] at h
    split at h
    · split at h
      · rename_i hn
        cases h
        exact lv_lstore hx hb hd hl.has hn rfl (fun ls' h' => k ls' (a_lh.s2 hsv h'))
      · exact (a_no h).elim
    · exact (a_no h).elim
  | astore v =>
    obtain ⟨rfl, rfl, rfl⟩ := a_c1v hr
    simp only [a_lo] at h
    split at h
    · split at h
      · rename_i hn
        cases h
        exact lv_astore hx hb hd hl.has hn rfl (fun ls' h' => k ls' (a_lh.s1 hsv h'))
      · exact (a_no h).elim
    · split at h
      · rename_i hn
        cases h
        exact lv_astoreN hx hb hd hl.has hn rfl (fun ls' h' => k ls' (a_lh.s1 hsv h'))
      · exact (a_no h).elim
    · exact (a_no h).elim
  | iinc i v =>
    obtain ⟨rfl, rfl, rfl⟩ := a_c1v hr
    simp only [a_lo] at h
    split at h
    · rename_i x hv
      split at h
      · rename_i hn
        cases h
        have hm := a_mem_al (sv := sv) (b := b) 0 i _ hv
        rw [Nat.zero_add] at hm
        obtain ⟨kk, hk⟩ := List.getElem?_of_mem hm
        exact lv_iinc hx hb hd hl.has hk (by rw [Int32.ofInt_toInt]) hn rfl (fun ls' h' => k ls' (a_lh.s1 hsv h'))
      · exact (a_no h).elim
    · exact (a_no h).elim
  | _ =>
    first
      | exact (a_no hr).elim
      | (obtain ⟨rfl, rfl, rfl⟩ := a_c1v hr; exact (a_no h).elim)
      | (simp only [a_rsv, a_tg] at hr; (repeat' split at hr) <;> first | exact (a_no hr).elim | (cases hr; exact (a_no h).elim) | (obtain ⟨rfl, rfl, rfl⟩ := a_c1v hr; exact (a_no h).elim))
end

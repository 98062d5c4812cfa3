/-! a city's picture (class); who can, what is learned -/
def nm5 : List Int → Int
  | [] => 0
  | a :: r => a + 32 * nm5 r
def d0 : Int × Int × Int := (0, 0, 0)
/-- duties in three rows -/
def vD (V : mV) (c : Nat) (D : List (Int × Int × Int)) : Prop := rw' V (c + 15) (D.length : Int) (fun k => (D.getD k.toNat d0).1) ∧ rw' V (c + 17) (D.length : Int) (fun k => (D.getD k.toNat d0).2.1) ∧ rw' V (c + 19) (D.length : Int) (fun k => (D.getD k.toNat d0).2.2)
def vC (V : mV) (c : Nat) (C : mCy) : Prop :=
  (vF V (c + 21) (co C 0) ∧ vF V (c + 26) (co C 1) ∧ vF V (c + 31) (co C 2) ∧ vF V (c + 36) (co C 3)) ∧
  (rw' V (c + 1) (cn C) (fun p => nm5 (cp C p)) ∧ rw' V (c + 3) (cn C) (cw C) ∧ rw' V (c + 5) (cn C) (cc C) ∧ rw' V (c + 7) (cn C) (cb C) ∧ vP V (c + 9) (cn C) (ck C)) ∧
  (rw' V (c + 11) (ct C) (fun t => nm5 (cq C t)) ∧ rw' V (c + 13) (ct C) (ch C)) ∧ vD V c (srt (cn C).toNat (cd C)) ∧ gI V c 14 = cu C
def okD (n t : Int) (d : Int × Int × Int) : Prop := (0 ≤ d.1 ∧ d.1 < n) ∧ (0 ≤ d.2.1 ∧ d.2.1 < t) ∧ (0 ≤ d.2.2 ∧ d.2.2 < 24)
def okC (C : mCy) : Prop :=
  (0 ≤ cn C ∧ cn C ≤ 10) ∧ (0 ≤ ct C ∧ ct C ≤ 8) ∧ ((cd C).length ≤ 24 ∧ ∀ d ∈ cd C, okD (cn C) (ct C) d) ∧
  (∀ p, 0 ≤ p → p < cn C → 0 ≤ cw C p ∧ cw C p ≤ 9) ∧ (∀ t, 0 ≤ t → t < ct C → 0 ≤ ch C t ∧ ch C t ≤ 99) ∧
  (∀ p, 0 ≤ p → p < cn C → (-1 ≤ cc C p ∧ cc C p < cn C) ∧ (-1 ≤ cb C p ∧ cb C p < cn C)) ∧
  (∀ a b, 0 ≤ a → a < cn C → 0 ≤ b → b < cn C → (cc C a = b ↔ cb C b = a)) ∧
  (∀ a b, 0 ≤ a → a < cn C → 0 ≤ b → b < cn C → (0 ≤ ck C a b ∧ ck C a b ≤ 99)) ∧ (∀ a, 0 ≤ a → a < cn C → ck C a a = 99) ∧
  fok false [0, 1, 2, 3] (co C 0) ∧ fok false [0, 1, 2, 3] (co C 1) ∧ fok true [0, 1, 2, 4, 5] (co C 2) ∧ fok true [0, 1, 2, 3, 6] (co C 3)
theorem flt_add (n : Int) : ∀ D : List (Int × Int × Int), (D.filter (fun d => decide (d.1 < n))).length + (D.filter (fun d => decide (d.1 = n))).length ≤ (D.filter (fun d => decide (d.1 < n + 1))).length
  | [] => by simp
  | d :: D => by
    have ih := flt_add n D
    rw [List.filter_cons, List.filter_cons, List.filter_cons]
    by_cases h1 : d.1 < n
    · rw [if_pos (by simp [h1]), if_neg (by simp; omega), if_pos (by simp; omega), List.length_cons, List.length_cons]; omega
    · by_cases h2 : d.1 = n
      · rw [if_neg (by simp [h1]), if_pos (by simp [h2]), if_pos (by simp; omega), List.length_cons, List.length_cons]; omega
      · rw [if_neg (by simp [h1]), if_neg (by simp [h2]), if_neg (by simp; omega)]; exact ih
theorem srt_succ (n : Nat) (D : List (Int × Int × Int)) : srt (n + 1) D = srt n D ++ D.filter (fun d => decide (d.1 = (n : Int))) := by
  unfold srt
  rw [List.range_succ, List.flatMap_append]
  simp
theorem srt_len (n : Nat) (D : List (Int × Int × Int)) : (srt n D).length ≤ D.length := by
  have key : (srt n D).length ≤ (D.filter (fun d => decide (d.1 < (n : Int)))).length := by
    induction n with
    | zero => simp [srt]
    | succ n ih =>
      rw [srt_succ, List.length_append]
      have := flt_add (n : Int) D
      have e : ((n + 1 : Nat) : Int) = (n : Int) + 1 := by omega
      rw [e]; omega
  exact Nat.le_trans key (List.length_filter_le _ _)
theorem srt_mem {n : Nat} {D : List (Int × Int × Int)} {d : Int × Int × Int} (h : d ∈ srt n D) : d ∈ D := by
  unfold srt at h
  obtain ⟨l, -, h2⟩ := List.mem_flatMap.mp h
  exact (List.mem_filter.mp h2).1
theorem vD.fr {S : Nat → Prop} {V V1 : mV} {c : Nat} {D : List (Int × Int × Int)} (h : vD V c D) (k : fr S V V1) (hS : ∀ i, c + 15 ≤ i → i ≤ c + 20 → ¬ S i) : vD V1 c D :=
  ⟨h.1.fr k (hS _ (by omega) (by omega)) (hS _ (by omega) (by omega)), h.2.1.fr k (hS _ (by omega) (by omega)) (hS _ (by omega) (by omega)), h.2.2.fr k (hS _ (by omega) (by omega)) (hS _ (by omega) (by omega))⟩
/-- cells of a city that hours change: the four stacks -/
def isSk (c i : Nat) : Prop := i = c + 25 ∨ i = c + 30 ∨ i = c + 35 ∨ i = c + 40
theorem vC.fr {S : Nat → Prop} {V V1 : mV} {c : Nat} {C : mCy} (h : vC V c C) (k : fr S V V1) (hS : ∀ i, c ≤ i → i ≤ c + 40 → ¬ isSk c i → ¬ S i) : vC V1 c C := by
  obtain ⟨⟨f0, f1, f2, f3⟩, ⟨a1, a2, a3, a4, a5⟩, ⟨b1, b2⟩, d, e⟩ := h
  have q : ∀ i, c ≤ i → i ≤ c + 40 → i ≠ c + 25 → i ≠ c + 30 → i ≠ c + 35 → i ≠ c + 40 → ¬ S i := fun i h1 h2 p1 p2 p3 p4 => hS i h1 h2 (by unfold isSk; omega)
  refine ⟨⟨f0.fr k (q _ (by omega) (by omega) (by omega) (by omega) (by omega) (by omega)) (q _ (by omega) (by omega) (by omega) (by omega) (by omega) (by omega)) (q _ (by omega) (by omega) (by omega) (by omega) (by omega) (by omega)),
    f1.fr k (q _ (by omega) (by omega) (by omega) (by omega) (by omega) (by omega)) (q _ (by omega) (by omega) (by omega) (by omega) (by omega) (by omega)) (q _ (by omega) (by omega) (by omega) (by omega) (by omega) (by omega)),
    f2.fr k (q _ (by omega) (by omega) (by omega) (by omega) (by omega) (by omega)) (q _ (by omega) (by omega) (by omega) (by omega) (by omega) (by omega)) (q _ (by omega) (by omega) (by omega) (by omega) (by omega) (by omega)),
    f3.fr k (q _ (by omega) (by omega) (by omega) (by omega) (by omega) (by omega)) (q _ (by omega) (by omega) (by omega) (by omega) (by omega) (by omega)) (q _ (by omega) (by omega) (by omega) (by omega) (by omega) (by omega))⟩,
    ⟨a1.fr k (q _ (by omega) (by omega) (by omega) (by omega) (by omega) (by omega)) (q _ (by omega) (by omega) (by omega) (by omega) (by omega) (by omega)), a2.fr k (q _ (by omega) (by omega) (by omega) (by omega) (by omega) (by omega)) (q _ (by omega) (by omega) (by omega) (by omega) (by omega) (by omega)), a3.fr k (q _ (by omega) (by omega) (by omega) (by omega) (by omega) (by omega)) (q _ (by omega) (by omega) (by omega) (by omega) (by omega) (by omega)), a4.fr k (q _ (by omega) (by omega) (by omega) (by omega) (by omega) (by omega)) (q _ (by omega) (by omega) (by omega) (by omega) (by omega) (by omega)), a5.fr k (q _ (by omega) (by omega) (by omega) (by omega) (by omega) (by omega)) (q _ (by omega) (by omega) (by omega) (by omega) (by omega) (by omega))⟩,
    ⟨b1.fr k (q _ (by omega) (by omega) (by omega) (by omega) (by omega) (by omega)) (q _ (by omega) (by omega) (by omega) (by omega) (by omega) (by omega)), b2.fr k (q _ (by omega) (by omega) (by omega) (by omega) (by omega) (by omega)) (q _ (by omega) (by omega) (by omega) (by omega) (by omega) (by omega))⟩,
    d.fr k (fun i h1 h2 => q _ (by omega) (by omega) (by omega) (by omega) (by omega) (by omega)), by rw [k.I (q c (by omega) (by omega) (by omega) (by omega) (by omega) (by omega))]; exact e⟩
/-- the hour's facts in the course -/
def tmK (V : mV) (cr : Nat) (clock day : Int) : Prop := rc V (cr + 1) 12 = clock ∧ rc V (cr + 1) 13 = day
/-- what thinking of a city changes: the facts, its stacks -/
def sT (cr c : Nat) (i : Nat) : Prop := i = cr + 2 ∨ isSk c i
theorem tmK.fr {S : Nat → Prop} {V V1 : mV} {cr : Nat} {a b : Int} (h : tmK V cr a b) (k : fr S V V1) (h2 : ¬ S (cr + 2)) : tmK V1 cr a b := by
  unfold tmK; rw [rc_fr k h2]; exact h
section
variable {G : mG} {V : mV} {cr c : Nat} {C : mCy}
theorem c_time (hG : is2 G cr) (hk : kC V cr) {a b : Int} (ha : 0 ≤ a ∧ a ≤ 10000) (hb : 0 ≤ b ∧ b ≤ 10000) : ∃ V', F_X2_setTime G cr a b V = some (V', 0) ∧ kC V' cr ∧ fr (fun i => i = cr + 2) V V' ∧ tmK V' cr a b := by
  obtain ⟨V1, e1, k1, f1, r1⟩ := k_put hG hk (k := 12) (v := a) ⟨by decide, by decide⟩ ⟨by omega, by omega⟩
  obtain ⟨V2, e2, k2, f2, r2⟩ := k_put hG k1 (k := 13) (v := b) ⟨by decide, by decide⟩ ⟨by omega, by omega⟩
  refine ⟨V2, ?_, k2, f1.trans f2, ?_, ?_⟩
  · unfold F_X2_setTime; exact E_bd e1 (E_bd e2 rfl)
  · rw [r2 _ (by decide), if_neg (by decide), r1 _ (by decide), if_pos rfl]
  · rw [r2 _ (by decide), if_pos rfl]
theorem c_ward (hc : is1 G c) (ho : okC C) (hv : vC V c C) {a b : Int} (ha : 0 ≤ a ∧ a < cn C) (hb : 0 ≤ b ∧ b < cn C) : F_X1_sameWard G c a b V = some (V, sam C a b) := by
  have h1 := ho.1
  have w1 := ho.2.2.2.1 a ha.1 ha.2
  have w2 := ho.2.2.2.1 b hb.1 hb.2
  unfold F_X1_sameWard sam
  refine E_bd (rw_get (s1_1s hc) (s1_1c hc) hv.2.1.2.1 (by omega) ha) (E_bd (rw_get (s1_1s hc) (s1_1c hc) hv.2.1.2.1 (by omega) hb) (E_gd ⟨by omega, by omega⟩ (E_gd ⟨by omega, by omega⟩ (E_if (fun q => E_so rfl (by rw [if_pos q])) (fun q => E_so rfl (by rw [if_neg q]))))))
theorem sam_bd {a b : Int} : 0 ≤ sam C a b ∧ sam C a b ≤ 1 := by unfold sam; split <;> omega
theorem c_knower (hG : is2 G cr) (hc : is1 G c) (ho : okC C) (hv : vC V c C) (hk : kC V cr) (hd : cr + 10 < c) {p l pts : Int} (hp : 0 ≤ p ∧ p < cn C) (hl : 0 ≤ l ∧ l < cn C) (hpt : 0 ≤ pts ∧ pts ≤ 99) :
    ∃ V', F_X2_setKnower G cr c p l pts V = some (V', 0) ∧ kC V' cr ∧ fr (fun i => i = cr + 2) V V' ∧ ∀ j, 0 ≤ j → rc V' (cr + 1) j = if j = 15 then sam C p l else if j = 14 then pts else rc V (cr + 1) j := by
  obtain ⟨V1, e1, k1, f1, r1⟩ := k_put hG hk (k := 14) (v := pts) ⟨by decide, by decide⟩ ⟨by omega, by omega⟩
  have v1 := hv.fr f1 (fun i h1 h2 _ => by omega)
  have hs := sam_bd (C := C) (a := p) (b := l)
  obtain ⟨V2, e2, k2, f2, r2⟩ := k_put hG k1 (k := 15) (v := sam C p l) ⟨by decide, by decide⟩ ⟨by omega, by omega⟩
  refine ⟨V2, ?_, k2, f1.trans f2, fun j hj => ?_⟩
  · unfold F_X2_setKnower
    refine E_bd e1 (E_bd (c_ward hc ho v1 hp hl) (E_gd ⟨by omega, by omega⟩ (E_if (fun q => ?_) (fun q => ?_))))
    · rw [q] at e2; exact E_bd e2 rfl
    · rw [show sam C p l = 1 by omega] at e2; exact E_bd e2 rfl
  · rw [r2 j hj, r1 j hj]
theorem c_able (hG : is2 G cr) (hc : is1 G c) (ho : okC C) (hv : vC V c C) (hk : kC V cr) (hd : cr + 10 < c) {p l task pts clock day : Int} (hp : 0 ≤ p ∧ p < cn C) (hl : 0 ≤ l ∧ l < cn C) (ht : 0 ≤ task ∧ task < ct C) (hpt : 0 ≤ pts ∧ pts ≤ 99) (htm : tmK V cr clock day) :
    ∃ V', F_X2_able G cr c p l task pts V = some (V', able C pts (if p = l then 1 else 0) task clock day) ∧ kC V' cr ∧ fr (sT cr c) V V' ∧ tmK V' cr clock day ∧ (able C pts (if p = l then 1 else 0) task clock day = 0 ∨ able C pts (if p = l then 1 else 0) task clock day = 1) := by
  have hn := ho.1
  have hnt := ho.2.1
  unfold able
  by_cases hcs : co C 2 = []
  · refine ⟨V, ?_, hk, fr_refl, htm, Or.inr (by rw [if_pos hcs])⟩
    unfold F_X2_able
    refine E_bd (p3_told hv.1.2.2.1) ?_
    rw [if_pos hcs]
    exact E_gd (by decide) (E_if (fun _ => E_so rfl (by rw [if_pos hcs])) (fun q => absurd rfl q))
  · rw [if_neg hcs]
    obtain ⟨o1, o2⟩ := (ho.2.2.2.2.2.2.2.2.2.2.2.1).resolve_left hcs
    have hh := ho.2.2.2.2.1 task ht.1 ht.2
    obtain ⟨V1, e1, k1, f1, r1⟩ := k_put hG hk (k := 14) (v := pts) ⟨by decide, by decide⟩ ⟨by omega, by omega⟩
    have v1 := hv.fr f1 (fun i h1 h2 _ => by omega)
    obtain ⟨V2, e2, k2, f2, r2⟩ := k_put hG k1 (k := 3) (v := ch C task) ⟨by decide, by decide⟩ ⟨by omega, by omega⟩
    obtain ⟨V3, e3, k3, f3, r3⟩ := k_put hG k2 (k := 16) (v := if p = l then 1 else 0) ⟨by decide, by decide⟩ (by split <;> decide)
    have f123 := (f1.trans f2).trans f3
    have v3 := hv.fr f123 (fun i h1 h2 _ => by omega)
    have hR : ∀ j, 0 ≤ j → rc V3 (cr + 1) j = if j = 16 then (if p = l then 1 else 0) else if j = 3 then ch C task else if j = 14 then pts else rc V (cr + 1) j := fun j hj => by rw [r3 j hj, r2 j hj, r1 j hj]
    have hag : ∀ k ∈ ([0, 1, 2, 4, 5] : List Int), rc V3 (cr + 1) (wrd k) = fct clock day pts 0 (ch C task) (if p = l then 1 else 0) 0 k := by
      intro k hk
      simp only [List.mem_cons, List.not_mem_nil, or_false] at hk
      rcases hk with rfl | rfl | rfl | rfl | rfl
      · rw [show wrd 0 = 12 from rfl, hR _ (by decide)]; simp [fct, htm.1]
      · rw [show wrd 1 = 13 from rfl, hR _ (by decide)]; simp [fct, htm.2]
      · rw [show wrd 2 = 14 from rfl, hR _ (by decide)]; simp [fct]
      · rw [show wrd 4 = 3 from rfl, hR _ (by decide)]; simp [fct]
      · rw [show wrd 5 = 16 from rfl, hR _ (by decide)]; simp [fct]
    obtain ⟨V4, e4, f4, b4, t4⟩ := c_tell hG (s1_12s hc) v3.1.2.2.1 k3 (by omega) o1 o2 hag
    have t01 := t4 rfl
    have k4 := k3.fr f4 (by omega) (by omega)
    have F4 : fr (sT cr c) V V4 := (f123.mono (fun i q => Or.inl q)).trans (f4.mono (fun i q => Or.inr (Or.inr (Or.inr (Or.inl q)))))
    refine ⟨V4, ?_, k4, F4, ?_, t01⟩
    · unfold F_X2_able
      refine E_bd (p3_told hv.1.2.2.1) ?_
      rw [if_neg hcs]
      refine E_gd (by decide) (E_if (fun q => absurd q (by decide)) (fun _ => ?_))
      refine E_bd e1 (E_bd (rw_get (s1_6s hc) (s1_6c hc) v1.2.2.1.2 (by omega) ht) (E_bd e2 (E_gd ⟨by omega, by omega⟩ (E_gd ⟨by omega, by omega⟩ ?_))))
      have fin : ∀ q, F_X7_put G (cr + 1) 16 q V2 = some (V3, 0) → F_X2_able_J56 G cr c p l task pts 16 q V2 = some (V4, tell (fct clock day pts 0 (ch C task) (if p = l then 1 else 0) 0) k0 (co C 2)) := by
        intro q hq
        unfold F_X2_able_J56
        refine E_bd hq (E_bd e4 (E_gd ⟨by omega, by omega⟩ (E_if (fun w => E_so rfl w.symm) (fun w => E_so rfl ?_))))
        rcases t01 with h | h
        · exact absurd h w
        · exact h.symm
      refine E_if (fun q => fin 1 ?_) (fun q => fin 0 ?_)
      · rw [if_pos q] at e3; exact e3
      · rw [if_neg q] at e3; exact e3
    · unfold tmK
      rw [rc_fr f4 (by omega), hR _ (by decide), hR _ (by decide)]
      exact htm
/-- learn (0), forget (1) -/
theorem c_made (hG : is2 G cr) (hc : is1 G c) (ho : okC C) (hv : vC V c C) (hk : kC V cr) (hd : cr + 10 < c) {w : Nat} (hw : w = 0 ∨ w = 1) (hcs : co C w ≠ []) {p l pts clock day : Int} (hp : 0 ≤ p ∧ p < cn C) (hl : 0 ≤ l ∧ l < cn C) (hpt : 0 ≤ pts ∧ pts ≤ 99) (htm : tmK V cr clock day) :
    ∃ V1 V2 x, F_X2_setKnower G cr c p l pts V = some (V1, 0) ∧ F_X3_value G (c + 21 + 5 * w) (cr + 1) V1 = some (V2, x) ∧ kC V2 cr ∧ fr (sT cr c) V V2 ∧ tmK V2 cr clock day ∧ (-1000000 ≤ x ∧ x ≤ 1000000) ∧ made C w p l pts clock day = max 0 (min 99 x) := by
  obtain ⟨V1, e1, k1, f1, r1⟩ := c_knower hG hc ho hv hk hd hp hl hpt
  have v1 := hv.fr f1 (fun i h1 h2 _ => by omega)
  have hag : ∀ k ∈ ([0, 1, 2, 3] : List Int), rc V1 (cr + 1) (wrd k) = fct clock day pts (sam C p l) 0 0 0 k := by
    intro k hk
    simp only [List.mem_cons, List.not_mem_nil, or_false] at hk
    rcases hk with rfl | rfl | rfl | rfl
    · rw [show wrd 0 = 12 from rfl, r1 _ (by decide)]; simp [fct, htm.1]
    · rw [show wrd 1 = 13 from rfl, r1 _ (by decide)]; simp [fct, htm.2]
    · rw [show wrd 2 = 14 from rfl, r1 _ (by decide)]; simp [fct]
    · rw [show wrd 3 = 15 from rfl, r1 _ (by decide)]; simp [fct]
  have key : ∀ f, is3 G f → vF V1 f (co C w) → cr + 2 ≠ f + 4 → (okc false 40 (co C w) ∧ pok [0, 1, 2, 3] (co C w)) → isSk c (f + 4) → f = c + 21 + 5 * w → ∃ V1 V2 x, F_X2_setKnower G cr c p l pts V = some (V1, 0) ∧ F_X3_value G (c + 21 + 5 * w) (cr + 1) V1 = some (V2, x) ∧ kC V2 cr ∧ fr (sT cr c) V V2 ∧ tmK V2 cr clock day ∧ (-1000000 ≤ x ∧ x ≤ 1000000) ∧ made C w p l pts clock day = max 0 (min 99 x) := by
    intro f h1 h2 h3 h4 h5 h6
    obtain ⟨V2, e2, f2, b2, -⟩ := c_tell hG h1 h2 k1 h3 h4.1 h4.2 hag
    refine ⟨V1, V2, _, e1, by rw [← h6]; exact e2, k1.fr f2 (by unfold isSk at h5; omega) h3, (f1.mono (fun i q => Or.inl q)).trans (f2.mono (fun i q => Or.inr (by rw [q]; exact h5))), ?_, b2, ?_⟩
    · unfold tmK
      rw [rc_fr f2 h3, r1 _ (by decide), r1 _ (by decide)]
      exact htm
    · unfold made; rw [if_neg hcs]
  rcases hw with rfl | rfl
  · exact key (c + 21) (s1_10s hc) v1.1.1 (by omega) ((ho.2.2.2.2.2.2.2.2.2.1).resolve_left hcs) (by unfold isSk; omega) rfl
  · exact key (c + 26) (s1_11s hc) v1.1.2.1 (by omega) ((ho.2.2.2.2.2.2.2.2.2.2.1).resolve_left hcs) (by unfold isSk; omega) rfl
end

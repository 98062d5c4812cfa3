/-! the reference: a city's picture; who can, what is made of points, who notices -/
def rF (V : mV) (m w : Nat) (cs : List Int) : Prop := (cs = [] ∧ gA V (m + 34) (4 + w) = -1) ∨ (cs ≠ [] ∧ ∃ fr en : Nat, gA V (m + 34) (4 + w) = (fr : Int) ∧ gA V (m + 35) (4 + w) = (en : Int) ∧ fr + cs.length = en ∧ en ≤ 1600 ∧ clr (fun j => gA V (m + 36) (1600 + j)) fr cs)
def nm27 : List Int → Int := fun l => l.foldl (fun v a => 27 * v + a) 0
def rC (V : mV) (m : Nat) (C : mCy) : Prop :=
  (gA V (m + 27) 3 = cn C ∧ gA V (m + 27) 4 = ct C ∧ gA V (m + 27) 5 = ((cd C).length : Int)) ∧
  (∀ p, 0 ≤ p → p < cn C → gA V (m + 29) (20 + p).toNat = cw C p) ∧ (∀ t, 0 ≤ t → t < ct C → gA V (m + 29) (30 + t).toNat = ch C t) ∧
  (∀ k : Nat, k < (cd C).length → gA V (m + 30) (72 + 3 * k) = ((cd C).getD k d0).1 ∧ gA V (m + 30) (73 + 3 * k) = ((cd C).getD k d0).2.1 ∧ gA V (m + 30) (74 + 3 * k) = ((cd C).getD k d0).2.2) ∧
  (∀ p, 0 ≤ p → p < cn C → gA V (m + 31) (10 + p).toNat = cc C p ∧ gA V (m + 32) (10 + p).toNat = cb C p) ∧
  (rF V m 0 (co C 0) ∧ rF V m 1 (co C 1) ∧ rF V m 2 (co C 2) ∧ rF V m 3 (co C 3)) ∧
  (∀ p, 0 ≤ p → p < cn C → gL V (m + 28) (20 + p).toNat = nm27 (cp C p)) ∧ (∀ t, 0 ≤ t → t < ct C → gL V (m + 28) (30 + t).toNat = nm27 (cq C t)) ∧
  (∀ a b, 0 ≤ a → a < cn C → 0 ≤ b → b < cn C → gA V (m + 33) (100 + a * 10 + b).toNat = ck C a b)
/-- thinking changes the pile and what is asked alone -/
def rT (m : Nat) (V V' : mV) : Prop := gA V' = gA V ∧ (∀ i k, (i ≠ m ∨ k ≠ 104) → gI V' i k = gI V i k) ∧ (∀ i k, (i ≠ m ∨ k < 51 ∨ 57 < k) → gJ V' i k = gJ V i k) ∧ (∀ i, i ≠ m + 70 → gL V' i = gL V i)
theorem rT_refl {m : Nat} {V : mV} : rT m V V := ⟨rfl, fun _ _ _ => rfl, fun _ _ _ => rfl, fun _ _ => rfl⟩
theorem rT.trans {m : Nat} {V V1 V2 : mV} (h : rT m V V1) (k : rT m V1 V2) : rT m V V2 :=
  ⟨k.1.trans h.1, fun i j q => (k.2.1 i j q).trans (h.2.1 i j q), fun i j q => (k.2.2.1 i j q).trans (h.2.2.1 i j q), fun i q => (k.2.2.2 i q).trans (h.2.2.2 i q)⟩
theorem rT_sJ {m k : Nat} {V : mV} {x : Int} (h : 51 ≤ k ∧ k ≤ 57) : rT m V (sJ V m k x) :=
  ⟨rfl, fun _ _ _ => rfl, fun i j q => by rw [gJ_sJ, if_neg (by omega)], fun _ _ => rfl⟩
theorem rT_pU {m : Nat} {V : mV} {g : Nat → Int} {L : Int} : rT m V (pU V m g L) :=
  ⟨rfl, fun i k q => pU_I q, fun _ _ _ => rfl, fun i q => by
    show uF V.2.2.2 (m + 70) g i = V.2.2.2 i
    unfold uF; rw [if_neg q]⟩
theorem clr_cg {c d : Nat → Int} (h : ∀ j, d j = c j) : ∀ {cs : List Int} {k : Nat}, clr c k cs → clr d k cs
  | [], _, _ => trivial
  | _ :: _, k, p => ⟨by rw [h k]; exact p.1, clr_cg h p.2⟩
/-- the city's cells are as they were -/
def rCs (m : Nat) (V V' : mV) : Prop := (∀ i, m + 27 ≤ i → i ≤ m + 36 → gA V' i = gA V i) ∧ gL V' (m + 28) = gL V (m + 28)
theorem rF.fr {V V' : mV} {m w : Nat} {cs : List Int} (h : rF V m w cs) (k : rCs m V V') : rF V' m w cs := by
  unfold rF
  rw [k.1 (m + 34) (by omega) (by omega), k.1 (m + 35) (by omega) (by omega), k.1 (m + 36) (by omega) (by omega)]
  exact h
theorem rC.fr {V V' : mV} {m : Nat} {C : mCy} (h : rC V m C) (k : rCs m V V') : rC V' m C := by
  obtain ⟨a, b, c, d, e, ⟨f0, f1, f2, f3⟩, g1, g2, g3⟩ := h
  unfold rC
  rw [k.1 (m + 27) (by omega) (by omega), k.1 (m + 29) (by omega) (by omega), k.1 (m + 30) (by omega) (by omega), k.1 (m + 31) (by omega) (by omega), k.1 (m + 32) (by omega) (by omega), k.1 (m + 33) (by omega) (by omega), k.2]
  exact ⟨a, b, c, d, e, ⟨f0.fr k, f1.fr k, f2.fr k, f3.fr k⟩, g1, g2, g3⟩
theorem rT.cs {m : Nat} {V V' : mV} (h : rT m V V') : rCs m V V' := ⟨fun i _ _ => by rw [h.1], h.2.2.2 _ (by omega)⟩
section
variable {G : mG} {V : mV} {m : Nat} {C : mCy}
theorem r_isIn {x a b : Int} (hx : rl x) (ha : rl a) (hb : rl b) : F_X10_isIn G x a b V = some (V, if a ≤ x ∧ x ≤ b then 1 else 0) := by
  unfold F_X10_isIn
  refine E_gd hx (E_gd ha (E_if (fun q => E_so rfl (by rw [if_neg (by omega)])) (fun q => E_gd hb (E_if (fun w => E_so rfl (by rw [if_neg (by omega)])) (fun w => E_so rfl (by rw [if_pos (by omega)]))))))
theorem r_isP (ho : okC C) (hv : rC V m C) {p : Int} (hp : rg p) : F_X10_isPerson G m p V = some (V, if 0 ≤ p ∧ p < cn C then 1 else 0) := by
  have hn := ho.1
  have hm := hv.1.1
  have e : F_X10_peopleMany G m V = some (V, cn C) := by unfold F_X10_peopleMany; rw [hm]
  unfold F_X10_isPerson
  refine E_gd hp (E_bd e (E_gd ⟨by omega, by omega⟩ (E_bd (r_isIn ⟨by omega, by omega⟩ ⟨by omega, by omega⟩ ⟨by omega, by omega⟩) (E_gd ?_ (E_so rfl ?_)))))
  · split
    · exact Or.inr rfl
    · exact Or.inl rfl
  · by_cases q : 0 ≤ p ∧ p < cn C
    · rw [if_pos q, if_pos (by omega)]
    · rw [if_neg q, if_neg (by omega)]
theorem r_ward (ho : okC C) (hv : rC V m C) {p : Int} (hp : 0 ≤ p ∧ p < cn C) : F_X10_wardOf G m p V = some (V, cw C p) := by
  have hn := ho.1
  unfold F_X10_wardOf
  exact E_gd ⟨by omega, by omega, by omega⟩ (E_so rfl (hv.2.1 p hp.1 hp.2))
theorem r_hard (ho : okC C) (hv : rC V m C) {t : Int} (ht : 0 ≤ t ∧ t < ct C) : F_X10_hardOf G m t V = some (V, ch C t) := by
  have hn := ho.2.1
  unfold F_X10_hardOf
  exact E_gd ⟨by omega, by omega, by omega⟩ (E_so rfl (hv.2.2.1 t ht.1 ht.2))
/-- codes told by what is asked -/
theorem r_codes (hv : rC V m C) {w : Nat} (hw : w = 0 ∨ w = 1 ∨ w = 2 ∨ w = 3) {b : Bool} {S : List Int} (hcs : co C w ≠ []) (hok : okc b 40 (co C w) ∧ pok S (co C w)) (hS : ∀ k ∈ S, k < 7) {fb : Int → Int} (hag : ∀ k ∈ S, rfa V m k = fb k) (hbd : ∀ k ∈ S, -1000000 ≤ fb k ∧ fb k ≤ 1000000) :
    ∃ V', F_X10_codesTell G m (w : Int) V = some (V', tell fb k0 (co C w)) ∧ rT m V V' ∧ (-1000000 ≤ tell fb k0 (co C w) ∧ tell fb k0 (co C w) ≤ 1000000) ∧ (b = true → tell fb k0 (co C w) = 0 ∨ tell fb k0 (co C w) = 1) := by
  have hF : rF V m w (co C w) := by
    rcases hw with rfl | rfl | rfl | rfl
    · exact hv.2.2.2.2.2.1.1
    · exact hv.2.2.2.2.2.1.2.1
    · exact hv.2.2.2.2.2.1.2.2.1
    · exact hv.2.2.2.2.2.1.2.2.2
  obtain ⟨-, fr, en, e1, e2, e3, e4, e5⟩ := hF.resolve_left (fun q => hcs q.1)
  -- facts within bounds, those asked as they are
  have hof : okF (fun k => if k ∈ S then fb k else 0) k0 := ⟨fun k => by
    show _ ≤ (if k ∈ S then fb k else 0) ∧ (if k ∈ S then fb k else 0) ≤ _
    split
    · next h => exact hbd k h
    · decide, fun k => by show _ ≤ (0 : Int) ∧ (0 : Int) ≤ _; decide⟩
  obtain ⟨x1, x2, x3⟩ := okc_tell (fb := fb) hok.1 hok.2 hof (fun k hk => by show (if k ∈ S then fb k else 0) = fb k; rw [if_pos hk])
  have x4 : evs (rfa V m) k0 (co C w) [] = some [tell fb k0 (co C w)] := by
    rw [← x1]
    exact evs_cg (S := S) (fun k hk => by show rfa V m k = (if k ∈ S then fb k else 0); rw [if_pos hk, hag k hk]) hok.2
  obtain ⟨g, e⟩ := r_tell (G := G) (w := (w : Int)) (by omega) (by rw [show (4 + (w : Int)).toNat = 4 + w by omega]; exact e1) (by rw [show (4 + (w : Int)).toNat = 4 + w by omega]; exact e2) e3 e4 e5 (fun v hm => ⟨(hok.2 v hm).1, fun q q7 => by have := hS _ ((hok.2 v hm).2 q.1 q.2); omega⟩) x4
  exact ⟨_, e, rT_pU, x2, x3⟩
theorem rF_told {w : Nat} (h : rF V m w (co C w)) : rg (gA V (m + 34) (4 + w)) ∧ (gA V (m + 34) (4 + w) = -1 ↔ co C w = []) := by
  rcases h with ⟨a, b⟩ | ⟨a, fr, en, b, c, d, e, -⟩
  · rw [b]; exact ⟨by decide, ⟨fun _ => a, fun _ => rfl⟩⟩
  · rw [b]; exact ⟨⟨by omega, by omega⟩, ⟨fun q => by omega, fun q => absurd q a⟩⟩
/-- learn (0), forget (1) -/
theorem r_made (ho : okC C) (hv : rC V m C) {w : Nat} (hw : w = 0 ∨ w = 1) {p l pts clock day : Int} (hp : 0 ≤ p ∧ p < cn C) (hl : 0 ≤ l ∧ l < cn C) (hpt : 0 ≤ pts ∧ pts ≤ 99) (hck : 0 ≤ clock ∧ clock ≤ 10000) (hdy : 0 ≤ day ∧ day ≤ 10000) :
    ∃ V', F_X10_made G m (w : Int) p l pts clock day V = some (V', made C w p l pts clock day) ∧ rT m V V' := by
  have w1 := ho.2.2.2.1 p hp.1 hp.2
  have w2 := ho.2.2.2.1 l hl.1 hl.2
  have hF : rF V m w (co C w) := by
    rcases hw with rfl | rfl
    · exact hv.2.2.2.2.2.1.1
    · exact hv.2.2.2.2.2.1.2.1
  obtain ⟨t1, t2⟩ := rF_told hF
  have e4 : (4 + (w : Int)).toNat = 4 + w := by omega
  unfold made
  by_cases hcs : co C w = []
  · refine ⟨V, ?_, rT_refl⟩
    rw [if_pos hcs]
    unfold F_X10_made
    rw [e4]
    exact E_gd ⟨by omega, by omega, by omega⟩ (E_gd t1 (E_if (fun _ => rfl) (fun q => absurd (t2.mpr hcs) q)))
  · rw [if_neg hcs]
    have hok : okc false 40 (co C w) ∧ pok [0, 1, 2, 3] (co C w) := by
      rcases hw with rfl | rfl
      · exact (ho.2.2.2.2.2.2.2.2.2.1).resolve_left hcs
      · exact (ho.2.2.2.2.2.2.2.2.2.2.1).resolve_left hcs
    have f3 : rT m V (sJ (sJ (sJ V m 51 clock) m 52 day) m 53 pts) := ((rT_sJ (by omega)).trans (rT_sJ (by omega))).trans (rT_sJ (by omega))
    have f4 : rT m V (sJ (sJ (sJ (sJ V m 51 clock) m 52 day) m 53 pts) m 54 (sam C p l)) := f3.trans (rT_sJ (by omega))
    have hv3 := hv.fr f3.cs
    have hv4 := hv.fr f4.cs
    have hs := sam_bd (C := C) (a := p) (b := l)
    obtain ⟨V', e, f5, b, -⟩ := r_codes (G := G) (fb := fct clock day pts (sam C p l) 0 0 0) hv4 (w := w) (by omega) hcs hok (by simp) (by
      intro k hk
      simp only [List.mem_cons, List.not_mem_nil, or_false] at hk
      rcases hk with rfl | rfl | rfl | rfl <;> simp [rfa, fct, gJ_sJ]) (by
      intro k hk
      simp only [List.mem_cons, List.not_mem_nil, or_false] at hk
      rcases hk with rfl | rfl | rfl | rfl <;> simp [fct] <;> omega)
    refine ⟨V', ?_, f4.trans f5⟩
    have fin : ∀ q, q = sam C p l → F_X10_made_J55 G m (w : Int) p l pts clock day q (sJ (sJ (sJ V m 51 clock) m 52 day) m 53 pts) = some (V', max 0 (min 99 (tell (fct clock day pts (sam C p l) 0 0 0) k0 (co C w)))) := by
      intro q hq
      subst hq
      unfold F_X10_made_J55
      refine E_lt (E_bd e (E_gd ⟨by omega, by omega⟩ (E_if (fun q1 => E_if (fun q2 => E_so rfl ?_) (fun q2 => E_so rfl ?_)) (fun q1 => E_so rfl ?_)))) <;> omega
    unfold F_X10_made
    rw [e4]
    refine E_gd ⟨by omega, by omega, by omega⟩ (E_gd t1 (E_if (fun q => absurd (t2.mp q) hcs) (fun _ => E_gd ⟨by omega, by omega⟩ (E_lt (E_gd ⟨by omega, by omega⟩ (E_lt (E_gd ⟨by omega, by omega⟩ (E_lt ?_))))))))
    refine E_bd (r_ward ho hv3 hp) (E_bd (r_ward ho hv3 hl) (E_gd ⟨by omega, by omega⟩ (E_gd ⟨by omega, by omega⟩ (E_if (fun q => fin 1 ?_) (fun q => fin 0 ?_)))))
    · unfold sam; rw [if_pos q]
    · unfold sam; rw [if_neg q]
theorem r_able (ho : okC C) (hv : rC V m C) {pts own task clock day : Int} (hown : own = 0 ∨ own = 1) (ht : 0 ≤ task ∧ task < ct C) (hpt : 0 ≤ pts ∧ pts ≤ 99) (hck : 0 ≤ clock ∧ clock ≤ 10000) (hdy : 0 ≤ day ∧ day ≤ 10000) :
    ∃ V', F_X10_canBy G m pts own task clock day V = some (V', able C pts own task clock day) ∧ rT m V V' ∧ (able C pts own task clock day = 0 ∨ able C pts own task clock day = 1) := by
  have hh := ho.2.2.2.2.1 task ht.1 ht.2
  obtain ⟨t1, t2⟩ := rF_told hv.2.2.2.2.2.1.2.2.1
  unfold able
  by_cases hcs : co C 2 = []
  · refine ⟨V, ?_, rT_refl, by rw [if_pos hcs]; exact Or.inr rfl⟩
    rw [if_pos hcs]
    unfold F_X10_canBy
    exact E_gd t1 (E_if (fun _ => rfl) (fun q => absurd (t2.mpr hcs) q))
  · rw [if_neg hcs]
    have hok := (ho.2.2.2.2.2.2.2.2.2.2.2.1).resolve_left hcs
    have f3 : rT m V (sJ (sJ (sJ V m 51 clock) m 52 day) m 53 pts) := ((rT_sJ (by omega)).trans (rT_sJ (by omega))).trans (rT_sJ (by omega))
    have f5 : rT m V (sJ (sJ (sJ (sJ (sJ V m 51 clock) m 52 day) m 53 pts) m 55 (ch C task)) m 56 own) := (f3.trans (rT_sJ (by omega))).trans (rT_sJ (by omega))
    obtain ⟨V', e, f6, b, t01⟩ := r_codes (G := G) (fb := fct clock day pts 0 (ch C task) own 0) (hv.fr f5.cs) (w := 2) (by omega) hcs hok (by simp) (by
      intro k hk
      simp only [List.mem_cons, List.not_mem_nil, or_false] at hk
      rcases hk with rfl | rfl | rfl | rfl | rfl <;> simp [rfa, fct, gJ_sJ]) (by
      intro k hk
      simp only [List.mem_cons, List.not_mem_nil, or_false] at hk
      rcases hk with rfl | rfl | rfl | rfl | rfl <;> simp [fct] <;> omega)
    have t := t01 rfl
    refine ⟨V', ?_, f5.trans f6, t⟩
    have fin : ∀ q, q = own → F_X10_canBy_J53 G m pts own task clock day q (sJ (sJ (sJ (sJ V m 51 clock) m 52 day) m 53 pts) m 55 (ch C task)) = some (V', tell (fct clock day pts 0 (ch C task) own 0) k0 (co C 2)) := by
      intro q hq
      subst hq
      unfold F_X10_canBy_J53
      refine E_lt (E_bd e (E_gd ⟨by omega, by omega⟩ (E_if (fun q1 => E_so rfl ?_) (fun q1 => E_so rfl ?_)))) <;> omega
    unfold F_X10_canBy
    refine E_gd t1 (E_if (fun q => absurd (t2.mp q) hcs) (fun _ => E_gd ⟨by omega, by omega⟩ (E_lt (E_gd ⟨by omega, by omega⟩ (E_lt (E_gd ⟨by omega, by omega⟩ (E_lt ?_)))))))
    refine E_bd (r_hard ho (hv.fr f3.cs) ht) (E_gd ⟨by omega, by omega⟩ (E_lt (E_gd ⟨by omega, by omega⟩ (E_if (fun q => fin 0 q.symm) (fun q => fin 1 (by omega))))))
end

/-! people and tasks told: the city so far; the class's side -/
def ul (f : Int → List Int) (k : Int) (l : List Int) : Int → List Int := fun j => if j = k then l else f j
def addP (C : mCy) (l : List Int) (w : Int) : mCy := ((cn C + 1, ct C, cu C), (uf (cw C) (cn C) w, ch C, uf (cc C) (cn C) (-1), uf (cb C) (cn C) (-1)), (fun a b => if a = cn C ∧ b = cn C then 99 else if a = cn C ∨ b = cn C then 0 else ck C a b), cd C, co C, ul (cp C) (cn C) l, cq C)
def addT (C : mCy) (l : List Int) (h : Int) : mCy := ((cn C, ct C + 1, cu C), (cw C, uf (ch C) (ct C) h, cc C, cb C), ck C, cd C, co C, cp C, ul (cq C) (ct C) l)
theorem uf_o {f : Int → Int} {k x j : Int} (h : j ≠ k) : uf f k x j = f j := by unfold uf; rw [if_neg h]
theorem uf_e {f : Int → Int} {k x : Int} : uf f k x k = x := by unfold uf; rw [if_pos rfl]
theorem ul_o {f : Int → List Int} {k j : Int} {x : List Int} (h : j ≠ k) : ul f k x j = f j := by unfold ul; rw [if_neg h]
theorem ul_e {f : Int → List Int} {k : Int} {x : List Int} : ul f k x k = x := by unfold ul; rw [if_pos rfl]
theorem okC_P {C : mCy} {l : List Int} {w : Int} (h : okC C) (hn : cn C < 10) (hw : 0 ≤ w ∧ w ≤ 9) : okC (addP C l w) := by
  obtain ⟨a1, a2, ⟨a3, a4⟩, a5, a6, a7, a8, a9, a10, a11⟩ := h
  refine ⟨⟨by show 0 ≤ cn C + 1; omega, by show cn C + 1 ≤ 10; omega⟩, a2, ⟨a3, fun d hd => ?_⟩, fun p p0 p1 => ?_, a6, fun p p0 p1 => ?_, fun a b x0 x1 y0 y1 => ?_, fun a b x0 x1 y0 y1 => ?_, fun a x0 x1 => ?_, a11⟩
  · obtain ⟨b1, b2, b3⟩ := a4 d hd
    exact ⟨⟨b1.1, by show d.1 < cn C + 1; omega⟩, b2, b3⟩
  · have p1' : p < cn C + 1 := p1
    show 0 ≤ uf (cw C) (cn C) w p ∧ uf (cw C) (cn C) w p ≤ 9
    by_cases e : p = cn C
    · rw [e, uf_e]; exact hw
    · rw [uf_o e]; exact a5 p p0 (by omega)
  · have p1' : p < cn C + 1 := p1
    show (-1 ≤ uf (cc C) (cn C) (-1) p ∧ uf (cc C) (cn C) (-1) p < cn C + 1) ∧ (-1 ≤ uf (cb C) (cn C) (-1) p ∧ uf (cb C) (cn C) (-1) p < cn C + 1)
    by_cases e : p = cn C
    · rw [e, uf_e, uf_e]; omega
    · rw [uf_o e, uf_o e]
      have := a7 p p0 (by omega)
      omega
  · have x1' : a < cn C + 1 := x1
    have y1' : b < cn C + 1 := y1
    show uf (cc C) (cn C) (-1) a = b ↔ uf (cb C) (cn C) (-1) b = a
    by_cases ea : a = cn C
    · rw [ea, uf_e]
      by_cases eb : b = cn C
      · rw [eb, uf_e]
      · rw [uf_o eb]
        have := a7 b y0 (by omega)
        omega
    · rw [uf_o ea]
      by_cases eb : b = cn C
      · rw [eb, uf_e]
        have := a7 a x0 (by omega)
        omega
      · rw [uf_o eb]; exact a8 a b x0 (by omega) y0 (by omega)
  · have x1' : a < cn C + 1 := x1
    have y1' : b < cn C + 1 := y1
    show 0 ≤ (if a = cn C ∧ b = cn C then (99 : Int) else if a = cn C ∨ b = cn C then 0 else ck C a b) ∧ (if a = cn C ∧ b = cn C then (99 : Int) else if a = cn C ∨ b = cn C then 0 else ck C a b) ≤ 99
    split
    · decide
    · split
      · decide
      · exact a9 a b x0 (by omega) y0 (by omega)
  · have x1' : a < cn C + 1 := x1
    show (if a = cn C ∧ a = cn C then (99 : Int) else if a = cn C ∨ a = cn C then 0 else ck C a a) = 99
    by_cases e : a = cn C
    · rw [if_pos ⟨e, e⟩]
    · rw [if_neg (fun z => e z.1), if_neg (by rintro (z | z) <;> exact e z)]
      exact a10 a x0 (by omega)
theorem okC_T {C : mCy} {l : List Int} {w : Int} (h : okC C) (hn : ct C < 8) (hw : 0 ≤ w ∧ w ≤ 99) : okC (addT C l w) := by
  obtain ⟨a1, a2, ⟨a3, a4⟩, a5, a6, a7⟩ := h
  refine ⟨a1, ⟨by show 0 ≤ ct C + 1; omega, by show ct C + 1 ≤ 8; omega⟩, ⟨a3, fun d hd => ?_⟩, a5, fun p p0 p1 => ?_, a7⟩
  · obtain ⟨b1, b2, b3⟩ := a4 d hd
    exact ⟨b1, ⟨b2.1, by show d.2.1 < ct C + 1; omega⟩, b3⟩
  · have p1' : p < ct C + 1 := p1
    show 0 ≤ uf (ch C) (ct C) w p ∧ uf (ch C) (ct C) w p ≤ 99
    by_cases e : p = ct C
    · rw [e, uf_e]; exact hw
    · rw [uf_o e]; exact a6 p p0 (by omega)
theorem okN_u {f : Int → List Int} {n : Int} {l : List Int} (h : okN f n) (hl : okW l ∧ l.length ≤ 6) : okN (ul f n l) (n + 1) := by
  intro j j0 j1
  by_cases e : j = n
  · rw [e, ul_e]; exact hl
  · rw [ul_o e]; exact h j j0 (by omega)
theorem rw_cg {V : mV} {r : Nat} {n : Int} {f g : Int → Int} (h : rw' V r n f) (k : ∀ j, 0 ≤ j → j < n → g j = f j) : rw' V r n g := ⟨h.1, fun j a b => by rw [h.2 j a b, k j a b]⟩
theorem srt_up {n : Nat} {D : List (Int × Int × Int)} (h : ∀ d ∈ D, d.1 < (n : Int)) : srt (n + 1) D = srt n D := by
  rw [srt_succ, List.filter_eq_nil_iff.mpr, List.append_nil]
  intro d hd
  have := h d hd
  simp; omega
/-- a city so far, in the class's cells -/
def bC (V : mV) (c : Nat) (C : mCy) : Prop := okC C ∧ (okN (cp C) (cn C) ∧ okN (cq C) (ct C)) ∧ vC V c C ∧ ∀ a b, 0 ≤ a → a < 10 → 0 ≤ b → b < 10 → (cn C ≤ a ∨ cn C ≤ b) → rc V (c + 9) (a * 10 + b) = 0
section
variable {G : mG} {V V' : mV} {c r : Nat} {C : mCy} {S : Nat → Prop}
theorem bC.fr (h : bC V c C) (k : fr S V V') (hS : ∀ i, c ≤ i → i ≤ c + 40 → ¬ S i) : bC V' c C := by
  obtain ⟨a, b, d, e⟩ := h
  refine ⟨a, b, d.fr k (fun j p q _ => hS j (by omega) (by omega)), fun x y x0 x1 y0 y1 z => ?_⟩
  rw [rc_fr k (hS _ (by omega) (by omega))]
  exact e x y x0 x1 y0 y1 z
theorem c_addP (hc : is1 G c) (h : bC V c C) (hn : cn C < 10) {l : List Int} {w : Int} (hl : okW l ∧ l.length ≤ 6) (hw : 0 ≤ w ∧ w ≤ 9) :
    ∃ V', F_X1_addPerson G c (nm5 l) w V = some (V', 0) ∧ fr (fun i => c + 1 ≤ i ∧ i ≤ c + 10) V V' ∧ bC V' c (addP C l w) := by
  obtain ⟨ho, ⟨o1, o2⟩, ⟨hF, ⟨n1, n2, n3, n4, n5⟩, hT, hD, hU⟩, hz⟩ := h
  have hn0 := ho.1.1
  obtain ⟨V1, e1, k1, w1⟩ := rw_add (v := nm5 l) (f := fun j => nm5 (ul (cp C) (cn C) l j)) (s1_0s hc) (s1_0c hc) (rw_cg n1 (fun j a b => by rw [ul_o (by omega)])) ⟨hn0, by omega⟩ (by rw [ul_e])
  obtain ⟨V2, e2, k2, w2⟩ := rw_add (V := V1) (v := w) (f := uf (cw C) (cn C) w) (s1_1s hc) (s1_1c hc) ((rw_cg n2 (fun j a b => uf_o (by omega))).fr k1 (by omega) (by omega)) ⟨hn0, by omega⟩ uf_e
  have k12 : fr (fun i => c + 1 ≤ i ∧ i ≤ c + 4) V V2 := (k1.mono (fun i q => by omega)).trans (k2.mono (fun i q => by omega))
  obtain ⟨V3, e3, k3, w3⟩ := rw_add (V := V2) (v := -1) (f := uf (cc C) (cn C) (-1)) (s1_2s hc) (s1_2c hc) ((rw_cg n3 (fun j a b => uf_o (by omega))).fr k12 (by omega) (by omega)) ⟨hn0, by omega⟩ uf_e
  have k13 : fr (fun i => c + 1 ≤ i ∧ i ≤ c + 6) V V3 := (k12.mono (fun i q => by omega)).trans (k3.mono (fun i q => by omega))
  obtain ⟨V4, e4, k4, w4⟩ := rw_add (V := V3) (v := -1) (f := uf (cb C) (cn C) (-1)) (s1_3s hc) (s1_3c hc) ((rw_cg n4 (fun j a b => uf_o (by omega))).fr k13 (by omega) (by omega)) ⟨hn0, by omega⟩ uf_e
  have k14 : fr (fun i => c + 1 ≤ i ∧ i ≤ c + 8) V V4 := (k13.mono (fun i q => by omega)).trans (k4.mono (fun i q => by omega))
  have n5' : vP V4 (c + 9) (cn C) (ck C) := n5.fr k14 (by omega) (by omega)
  have kk : fr (fun i => i = c + 10) V4 (sA V4 (c + 10) (cn C * 10 + cn C).toNat 99) := fr_sA rfl
  have k15 : fr (fun i => c + 1 ≤ i ∧ i ≤ c + 10) V (sA V4 (c + 10) (cn C * 10 + cn C).toNat 99) := (k14.mono (fun i q => by omega)).trans (kk.mono (fun i q => by omega))
  have hcell : ∀ a b, 0 ≤ a → a < 10 → 0 ≤ b → b < 10 → rc (sA V4 (c + 10) (cn C * 10 + cn C).toNat 99) (c + 9) (a * 10 + b) = if a = cn C ∧ b = cn C then 99 else rc V (c + 9) (a * 10 + b) := by
    intro a b a0 a1 b0 b1
    show gA (sA V4 (c + 10) (cn C * 10 + cn C).toNat 99) (c + 10) (a * 10 + b).toNat = _
    rw [gA_sA]
    by_cases e : a = cn C ∧ b = cn C
    · rw [if_pos ⟨rfl, by rw [e.1, e.2]⟩, if_pos e]
    · rw [if_neg (by rintro ⟨-, z⟩; exact e ⟨by omega, by omega⟩), if_neg e]
      exact k14.A (by omega) _
  have hT1 : (cn C + 1).toNat = (cn C).toNat + 1 := by omega
  refine ⟨_, ?_, k15, okC_P ho hn hw, ⟨okN_u o1 hl, o2⟩, ⟨?_, ⟨?_, ?_, ?_, ?_, ?_⟩, ?_, ?_, ?_⟩, fun a b a0 a1 b0 b1 z => ?_⟩
  · unfold F_X1_addPerson
    refine E_bd p7_size ?_
    rw [n1.1]
    refine E_bd e1 (E_bd e2 (E_bd e3 (E_bd e4 (E_bd (p7_put (s1_4s hc) (rw_rz (s1_4c hc) n5'.1 ⟨by decide, by decide⟩) ⟨by omega, by omega⟩) (E_so ?_ rfl)))))
    unfold rput
    rw [if_pos ⟨by omega, by rw [n5'.1]; omega⟩]
  · obtain ⟨f1, f2, f3, f4⟩ := hF
    exact ⟨f1.fr k15 (by omega) (by omega) (by omega), f2.fr k15 (by omega) (by omega) (by omega), f3.fr k15 (by omega) (by omega) (by omega), f4.fr k15 (by omega) (by omega) (by omega)⟩
  · exact (((w1.fr k2 (by omega) (by omega)).fr k3 (by omega) (by omega)).fr k4 (by omega) (by omega)).fr kk (by omega) (by omega)
  · exact ((w2.fr k3 (by omega) (by omega)).fr k4 (by omega) (by omega)).fr kk (by omega) (by omega)
  · exact (w3.fr k4 (by omega) (by omega)).fr kk (by omega) (by omega)
  · exact w4.fr kk (by omega) (by omega)
  · refine ⟨n5'.1, fun a b a0 a1 b0 b1 => ?_⟩
    have a1' : a < cn C + 1 := a1
    have b1' : b < cn C + 1 := b1
    rw [hcell a b a0 (by omega) b0 (by omega)]
    show _ = (if a = cn C ∧ b = cn C then (99 : Int) else if a = cn C ∨ b = cn C then 0 else ck C a b)
    by_cases e : a = cn C ∧ b = cn C
    · rw [if_pos e, if_pos e]
    · rw [if_neg e, if_neg e]
      by_cases e2 : a = cn C ∨ b = cn C
      · rw [if_pos e2]; exact hz a b a0 (by omega) b0 (by omega) (by omega)
      · rw [if_neg e2]; exact n5.2 a b a0 (by omega) b0 (by omega)
  · exact ⟨hT.1.fr k15 (by omega) (by omega), hT.2.fr k15 (by omega) (by omega)⟩
  · show vD _ c (srt (cn C + 1).toNat (cd C))
    rw [hT1, srt_up (fun d hd => by have := (ho.2.2.1.2 d hd).1; omega)]
    exact ⟨hD.1.fr k15 (by omega) (by omega), hD.2.1.fr k15 (by omega) (by omega), hD.2.2.fr k15 (by omega) (by omega)⟩
  · rw [k15.I (by omega)]; exact hU
  · have z' : cn C + 1 ≤ a ∨ cn C + 1 ≤ b := z
    rw [hcell a b a0 a1 b0 b1, if_neg (by omega)]
    exact hz a b a0 a1 b0 b1 (by omega)
theorem c_addT (hc : is1 G c) (h : bC V c C) (hn : ct C < 8) {l : List Int} {w : Int} (hl : okW l ∧ l.length ≤ 6) (hw : 0 ≤ w ∧ w ≤ 99) :
    ∃ V', F_X1_addTask G c (nm5 l) w V = some (V', 0) ∧ fr (fun i => c + 11 ≤ i ∧ i ≤ c + 14) V V' ∧ gI V' c = gI V c ∧ bC V' c (addT C l w) := by
  obtain ⟨ho, ⟨o1, o2⟩, ⟨hF, ⟨n1, n2, n3, n4, n5⟩, hT, hD, hU⟩, hz⟩ := h
  have hn0 := ho.2.1.1
  obtain ⟨V1, e1, k1, w1⟩ := rw_add (v := nm5 l) (f := fun j => nm5 (ul (cq C) (ct C) l j)) (s1_5s hc) (s1_5c hc) (rw_cg hT.1 (fun j a b => by rw [ul_o (by omega)])) ⟨hn0, by omega⟩ (by rw [ul_e])
  obtain ⟨V2, e2, k2, w2⟩ := rw_add (V := V1) (v := w) (f := uf (ch C) (ct C) w) (s1_6s hc) (s1_6c hc) ((rw_cg hT.2 (fun j a b => uf_o (by omega))).fr k1 (by omega) (by omega)) ⟨hn0, by omega⟩ uf_e
  have k12 : fr (fun i => c + 11 ≤ i ∧ i ≤ c + 14) V V2 := (k1.mono (fun i q => by omega)).trans (k2.mono (fun i q => by omega))
  refine ⟨V2, ?_, k12, by funext j; exact k12.I (by omega) j, okC_T ho hn hw, ⟨o1, okN_u o2 hl⟩, ⟨?_, ⟨n1.fr k12 (by omega) (by omega), n2.fr k12 (by omega) (by omega), n3.fr k12 (by omega) (by omega), n4.fr k12 (by omega) (by omega), n5.fr k12 (by omega) (by omega)⟩, ⟨w1.fr k2 (by omega) (by omega), w2⟩, ⟨hD.1.fr k12 (by omega) (by omega), hD.2.1.fr k12 (by omega) (by omega), hD.2.2.fr k12 (by omega) (by omega)⟩, ?_⟩, fun a b a0 a1 b0 b1 z => ?_⟩
  · unfold F_X1_addTask
    exact E_bd e1 (E_bd e2 rfl)
  · obtain ⟨f1, f2, f3, f4⟩ := hF
    exact ⟨f1.fr k12 (by omega) (by omega) (by omega), f2.fr k12 (by omega) (by omega) (by omega), f3.fr k12 (by omega) (by omega) (by omega), f4.fr k12 (by omega) (by omega) (by omega)⟩
  · rw [k12.I (by omega)]; exact hU
  · rw [rc_fr k12 (by omega)]; exact hz a b a0 a1 b0 b1 z
end

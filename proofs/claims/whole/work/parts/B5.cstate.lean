/-! a statement, many statements (class) -/
def aSt1 (C : mCy) (T : mT2) (p : Nat) : tC :=
  if cu C = 70 then .inl (5, (p : Int))
  else if nmT T p = 0 then (if cn C = 10 then .inl (5, (p : Int)) else toC (aGv C T 1 9 (nxT T p)) (addP C (ltr T (nxT T p) (lnT T (nxT T p))) (vlT T (nxT T (nxT T (nxT T p))))))
  else if nmT T p = 2 then (if ct C = 8 then .inl (5, (p : Int)) else toC (aGv C T 3 99 (nxT T p)) (addT C (ltr T (nxT T p) (lnT T (nxT T p))) (vlT T (nxT T (nxT T (nxT T p))))))
  else if nmT T p = 4 then (if (cd C).length = 24 then .inl (5, (p : Int)) else toC (aDu C T (nxT T p)) (addD C (aDuD C T (nxT T p))))
  else if nmT T p = 6 then toC (aCo C T (nxT T p)) (addC C (aPi C T (nxT T p)) (aPi C T (nxT T (nxT T p))))
  else if nmT T p = 7 then toC (aKn C T (nxT T p)) (addK C (aPi C T (nxT T p)) (aPi C T (nxT T (nxT T p))) (vlT T (nxT T (nxT T (nxT T p)))))
  else if 8 ≤ nmT T p ∧ nmT T p ≤ 11 then (if co C (nmT T p - 8).toNat ≠ [] then .inl (5, (p : Int)) else aRu C T (nmT T p - 8).toNat (nxT T p))
  else .inl (1, (p : Int))
def endC (T : mT2) (y : tC) : tC := match y with
  | .inl e => .inl e
  | .inr y => toC (nSg T 59 y.2) (addU y.1)
def aSt (C : mCy) (T : mT2) (p : Nat) : tC := endC T (aSt1 C T p)
section
variable {G : mG} {V V' : mV} {c r x : Nat} {C : mCy} {T : mT2} {n z : Nat}
theorem bC_u (h : bC V c C) : bC (sI V c 14 (gI V c 14 + 1)) c (addU C) := by
  obtain ⟨ho, hN, ⟨⟨f1, f2, f3, f4⟩, ⟨n1, n2, n3, n4, n5⟩, hT, hD, hU⟩, hz⟩ := h
  have k : fr (fun i => i = c) V (sI V c 14 (gI V c 14 + 1)) := fr_sI rfl
  refine ⟨ho, hN, ⟨⟨f1.fr k (by omega) (by omega) (by omega), f2.fr k (by omega) (by omega) (by omega), f3.fr k (by omega) (by omega) (by omega), f4.fr k (by omega) (by omega) (by omega)⟩, ⟨n1.fr k (by omega) (by omega), n2.fr k (by omega) (by omega), n3.fr k (by omega) (by omega), n4.fr k (by omega) (by omega), n5.fr k (by omega) (by omega)⟩, ⟨hT.1.fr k (by omega) (by omega), hT.2.fr k (by omega) (by omega)⟩, ⟨hD.1.fr k (by omega) (by omega), hD.2.1.fr k (by omega) (by omega), hD.2.2.fr k (by omega) (by omega)⟩, ?_⟩, hz⟩
  rw [gI_sI, if_pos ⟨rfl, rfl⟩, hU]; rfl
/-- the end of a statement -/
theorem c_end {x2 : Int} (hG : is6 G r) (hc : is1 G c) (hT : tOk T) (hd : r + 12 < c) {y : tC} (h : oC G V r c T y) :
    ∃ V', F_X6_readCity_J154_6 r c x2 (n, z, G, V) = some ((n, z, G, V'), 0, x2 + 1) ∧ fr (fun i => i = r ∨ i = c) V V' ∧ gI V' r 10 = gI V r 10 ∧ oC G V' r c T (endC T y) := by
  have gg : ∀ {Q : Nat → Prop} {U U' : mV}, fr Q U U' → ∀ {r : Nat}, ¬ Q r → gI U' r 10 = gI U r 10 := fun k _ hr => k.I hr 10
  unfold F_X6_readCity_J154_6
  cases y with
  | inl e =>
    obtain ⟨h1, h2⟩ := h
    obtain ⟨V1, e1, k1, r1⟩ := S_sg hG hT h1 (s := 59) (by decide)
    have r1' : rs6 V1 r T (.inl e) := r1
    have k2 : fr (fun i => i = c) V1 (sI V1 c 14 (gI V1 c 14 + 1)) := fr_sI rfl
    have kk : fr (fun i => i = r ∨ i = c) V (sI V1 c 14 (gI V1 c 14 + 1)) := (k1.1.mono (fun i q => Or.inl q)).trans (k2.mono (fun i q => Or.inr q))
    refine ⟨_, E_gd ⟨hG, hc⟩ (E_bd e1 (E_lt (E_lt rfl))), kk, by rw [k2.I (by omega)]; exact k1.2, rs6.w r1' k2 (fun i a b => by omega), ?_⟩
    obtain ⟨⟨a1, a2, a3, a4, a5, a6, a7, a8, a9⟩, ⟨b1, b2, b3, b4⟩, d1, d2, d3, d4⟩ := h2
    refine ⟨⟨a1.fr kk (by omega), a2.fr kk (by omega), a3.fr kk (by omega), a4.fr kk (by omega), a5.fr kk (by omega), a6.fr kk (by omega), a7.fr kk (by omega), a8.fr kk (by omega), a9.fr kk (by omega)⟩, ⟨b1.fr kk (by omega), b2.fr kk (by omega), b3.fr kk (by omega), b4.fr kk (by omega)⟩, ?_, ?_, ?_, ?_⟩
    · rw [kk.I (by omega)]; exact d1
    · rw [kk.I (by omega)]; exact d2
    · rw [kk.I (by omega)]; exact d3
    · rw [kk.I (by omega)]; exact d4
  | inr y =>
    obtain ⟨C1, q⟩ := y
    obtain ⟨h1, h2⟩ := h
    have h1' : rs6 V r T (.inr q) := h1
    have h2' : bC V c C1 := h2
    obtain ⟨V1, e1, k1, r1⟩ := S_sg hG hT h1' (s := 59) (by decide)
    have r1' : rs6 V1 r T (nSg T 59 q) := r1
    have k2 : fr (fun i => i = c) V1 (sI V1 c 14 (gI V1 c 14 + 1)) := fr_sI rfl
    have kk : fr (fun i => i = r ∨ i = c) V (sI V1 c 14 (gI V1 c 14 + 1)) := (k1.1.mono (fun i q => Or.inl q)).trans (k2.mono (fun i q => Or.inr q))
    have b2 := bC_u (h2'.fr k1.1 (fun i a b => by omega))
    refine ⟨_, E_gd ⟨hG, hc⟩ (E_bd e1 (E_lt (E_lt rfl))), kk, by rw [k2.I (by omega)]; exact k1.2, ?_⟩
    show oC G _ r c T (toC (nSg T 59 q) (addU C1))
    have r2 := rs6.w r1' k2 (fun i a b => by omega)
    cases hs : nSg T 59 q with
    | inl e => rw [hs] at r2; exact ⟨r2, bC.z hc b2⟩
    | inr q' => rw [hs] at r2; exact ⟨r2, b2⟩
theorem oC_to {y : (Int × Int) ⊕ Nat} {C1 : mCy} (hc : is1 G c) (h : rs6 V r T y) (h1 : ∀ e, y = .inl e → bC V c C) (h2 : ∀ q, y = .inr q → bC V c C1) : oC G V r c T (toC y C1) := by
  cases y with
  | inl e => exact ⟨h, bC.z hc (h1 e rfl)⟩
  | inr q => exact ⟨h, h2 q rfl⟩
/-- too many -/
theorem c_many (hc : is1 G c) (h : bC V c C) {w : Int} (hw : rg w) : F_X6_isTooMany G c w V = some (V, if (w = 0 ∧ cn C = 10) ∨ (w = 2 ∧ ct C = 8) ∨ (w = 4 ∧ (cd C).length = 24) ∨ (8 ≤ w ∧ w ≤ 11 ∧ co C (w - 8).toNat ≠ []) then 1 else 0) := by
  obtain ⟨ho, hN, ⟨⟨f1, f2, f3, f4⟩, ⟨n1, n2, n3, n4, n5⟩, hT, hD, hU⟩, hz⟩ := h
  have hn := ho.1
  have ht := ho.2.1
  have hl := ho.2.2.1.1
  have hs := srt_full ho
  unfold F_X6_isTooMany
  refine E_gd hw (E_if (fun y => E_bd p7_size ?_) (fun y0 => E_if (fun y => E_bd p7_size ?_) (fun y1 => E_if (fun y => E_bd p7_size ?_) (fun y2 => E_if (fun y => E_bd (p3_told f1) (E_gd (by split <;> decide) (E_so rfl ?_))) (fun y3 => E_if (fun y => E_bd (p3_told f2) (E_gd (by split <;> decide) (E_so rfl ?_))) (fun y4 => E_if (fun y => E_bd (p3_told f3) (E_gd (by split <;> decide) (E_so rfl ?_))) (fun y5 => E_if (fun y => E_bd (p3_told f4) (E_gd (by split <;> decide) (E_so rfl ?_))) (fun y6 => E_so rfl ?_))))))))
  · rw [n1.1]
    refine E_gd ⟨by omega, by omega⟩ (E_if (fun q => E_so rfl ?_) (fun q => E_so rfl ?_))
    · rw [if_neg (by omega)]
    · rw [if_pos (Or.inl ⟨y, by omega⟩)]
  · rw [hT.1.1]
    refine E_gd ⟨by omega, by omega⟩ (E_if (fun q => E_so rfl ?_) (fun q => E_so rfl ?_))
    · rw [if_neg (by omega)]
    · rw [if_pos (Or.inr (Or.inl ⟨y, by omega⟩))]
  · rw [hD.1.1]
    refine E_gd ⟨by omega, by omega⟩ (E_if (fun q => E_so rfl ?_) (fun q => E_so rfl ?_))
    · rw [if_neg (by omega)]
    · rw [if_pos (Or.inr (Or.inr (Or.inl ⟨y, by omega⟩)))]
  · subst y
    show (if co C 0 = [] then (0 : Int) else 1) = _
    by_cases q : co C 0 = []
    · rw [if_pos q, if_neg]
      rintro (z | z | z | z)
      · exact absurd z.1 (by decide)
      · exact absurd z.1 (by decide)
      · exact absurd z.1 (by decide)
      · exact z.2.2 q
    · rw [if_neg q, if_pos (Or.inr (Or.inr (Or.inr ⟨by decide, by decide, q⟩)))]
  · subst y
    by_cases q : co C 1 = []
    · rw [if_pos q, if_neg]
      rintro (z | z | z | z)
      · exact absurd z.1 (by decide)
      · exact absurd z.1 (by decide)
      · exact absurd z.1 (by decide)
      · exact z.2.2 q
    · rw [if_neg q, if_pos (Or.inr (Or.inr (Or.inr ⟨by decide, by decide, q⟩)))]
  · subst y
    by_cases q : co C 2 = []
    · rw [if_pos q, if_neg]
      rintro (z | z | z | z)
      · exact absurd z.1 (by decide)
      · exact absurd z.1 (by decide)
      · exact absurd z.1 (by decide)
      · exact z.2.2 q
    · rw [if_neg q, if_pos (Or.inr (Or.inr (Or.inr ⟨by decide, by decide, q⟩)))]
  · subst y
    by_cases q : co C 3 = []
    · rw [if_pos q, if_neg]
      rintro (z | z | z | z)
      · exact absurd z.1 (by decide)
      · exact absurd z.1 (by decide)
      · exact absurd z.1 (by decide)
      · exact z.2.2 q
    · rw [if_neg q, if_pos (Or.inr (Or.inr (Or.inr ⟨by decide, by decide, q⟩)))]
  · rw [if_neg (by omega)]
/-- one statement -/
theorem c_stmt (hG : is6 G r) (hc : is1 G c) (hT : tOk T) (hd : r + 12 < c) (hx : r ≠ x) (h : bC V c C) (hu : 0 ≤ cu C ∧ cu C ≤ 70) {p : Nat} (hs : rs6 V r T (.inr p)) (hk : kdT T p ≠ 3) :
    ∃ G' V', B_X6_readCity_6 r c (cu C) (n, z, G, V) = some ((n, z, G', V'), 0, cu C + 1) ∧ gE r x G G' ∧ (is6 G' r ∧ is1 G' c) ∧ frj r (fun i => i = r ∨ (c ≤ i ∧ i ≤ c + 40)) V V' ∧ gI V' r 10 = gI V r 10 ∧ oC G' V' r c T (aSt C T p) := by
  have hw := nmT_r (T := T) (p := p)
  have pre : ∀ res, (if cu C = 70 then (F_X6_readCity_J53_6 r c (cu C) (n, z, G, V)) else (bd (F_X6_isTooMany G c (nmT T p) V) fun V39 v40 =>
  gd (rg v40) <|
  if v40 = 0 then (gd (rg (nmT T p)) <|
  if nmT T p = 0 then (F_X6_readCity_J74_6 r c (cu C) (nmT T p) (n, z, G, V39)) else (if nmT T p = 2 then (F_X6_readCity_J74_6 r c (cu C) (nmT T p) (n, z, G, V39)) else (if nmT T p = 4 then (bd (F_X6_readDuty G r c V39) fun V76 v77 =>
  F_X6_readCity_J154_6 r c (cu C) (n, z, G, V76)) else (if nmT T p = 6 then (bd (F_X6_readCover G r c V39) fun V73 v74 =>
  F_X6_readCity_J154_6 r c (cu C) (n, z, G, V73)) else (if nmT T p = 7 then (bd (F_X6_readKnowing G r c V39) fun V70 v71 =>
  F_X6_readCity_J154_6 r c (cu C) (n, z, G, V70)) else (if nmT T p < 8 then (F_X6_readCity_J145_6 r c (cu C) (n, z, G, V39)) else (if 11 < nmT T p then (F_X6_readCity_J145_6 r c (cu C) (n, z, G, V39)) else (bd (F_X6_readRule r c (nmT T p) (n, z, G, V39)) fun W65 v66 =>
  gd (is6 W65.2.2.1 r ∧ is1 W65.2.2.1 c) <|
  F_X6_readCity_J154_6 r c (cu C) (W65.1, W65.2.1, W65.2.2.1, W65.2.2.2))))))))) else (F_X6_readCity_J53_6 r c (cu C) (n, z, G, V39)))) = res → B_X6_readCity_6 r c (cu C) (n, z, G, V) = res := by
    intro res e
    unfold B_X6_readCity_6
    exact E_gd ⟨hG, hc⟩ (E_gd ⟨by omega, by omega⟩ (E_if (fun y => absurd y (by omega)) (fun _ => E_bd (k6_fine hs.2) (E_gd (by decide) (E_if (fun y => absurd y (by decide)) (fun _ => E_bd (k6_kd hG hs.1) (E_gd kd_r (E_if (fun y => absurd (by omega) hk) (fun _ => E_bd (k6_word hG hs.1) e)))))))))
  -- a fault here
  have flt : ∀ {k : Int}, rg k ∧ k ≠ 0 → ∀ {F : Option (mW × Nat × Int)}, (∀ V1, F_X6_fail G r k (p : Int) V = some (V1, 0) → F = F_X6_readCity_J154_6 r c (cu C) (n, z, G, V1)) → aSt1 C T p = .inl (k, (p : Int)) → ∃ G' V', F = some ((n, z, G', V'), 0, cu C + 1) ∧ gE r x G G' ∧ (is6 G' r ∧ is1 G' c) ∧ frj r (fun i => i = r ∨ (c ≤ i ∧ i ≤ c + 40)) V V' ∧ gI V' r 10 = gI V r 10 ∧ oC G' V' r c T (aSt C T p) := by
    intro k hk' F hF hA
    obtain ⟨V1, e1, k1, r1⟩ := S_fail (G := G) hs (k := k) (w := (p : Int)) hk'
    have r1' : rs6 V1 r T (.inl (k, (p : Int))) := r1
    have h1 := h.fr k1.1 (fun i a b => by omega)
    obtain ⟨V2, e2, k2, k3, o⟩ := c_end (n := n) (z := z) (x2 := cu C) hG hc hT hd (y := .inl (k, (p : Int))) (show oC G V1 r c T (.inl (k, (p : Int))) from ⟨r1', bC.z hc h1⟩)
    refine ⟨G, V2, by rw [hF V1 e1]; exact e2, gE_refl, ⟨hG, hc⟩, (((k1.1.mono (fun i q => Or.inl q)).trans (k2.mono (fun i q => by omega))).j), k3.trans k1.2, ?_⟩
    unfold aSt; rw [hA]; exact o
  -- what is read stands
  have got : ∀ {F : Option (mW × Nat × Int)} {V1 : mV} {S : Nat → Prop} {y : tC}, F = F_X6_readCity_J154_6 r c (cu C) (n, z, G, V1) → fr S V V1 → (∀ i, S i → i = r ∨ (c ≤ i ∧ i ≤ c + 40)) → gI V1 r 10 = gI V r 10 → oC G V1 r c T y → aSt1 C T p = y → ∃ G' V', F = some ((n, z, G', V'), 0, cu C + 1) ∧ gE r x G G' ∧ (is6 G' r ∧ is1 G' c) ∧ frj r (fun i => i = r ∨ (c ≤ i ∧ i ≤ c + 40)) V V' ∧ gI V' r 10 = gI V r 10 ∧ oC G' V' r c T (aSt C T p) := by
    intro F V1 S y hF k1 hS k10 ho hA
    obtain ⟨V2, e2, k2, k3, o⟩ := c_end (n := n) (z := z) (x2 := cu C) hG hc hT hd ho
    refine ⟨G, V2, by rw [hF]; exact e2, gE_refl, ⟨hG, hc⟩, (((k1.mono hS).trans (k2.mono (fun i q => by omega))).j), k3.trans k10, ?_⟩
    unfold aSt; rw [hA]; exact o
  have J53 : ∀ V1, F_X6_fail G r 5 (p : Int) V = some (V1, 0) → F_X6_readCity_J53_6 r c (cu C) (n, z, G, V) = F_X6_readCity_J154_6 r c (cu C) (n, z, G, V1) := by
    intro V1 e1
    unfold F_X6_readCity_J53_6
    exact E_gd ⟨hG, hc⟩ (E_bd (k6_here hG hs.1) (E_bd e1 rfl))
  have J145 : ∀ V1, F_X6_fail G r 1 (p : Int) V = some (V1, 0) → F_X6_readCity_J145_6 r c (cu C) (n, z, G, V) = F_X6_readCity_J154_6 r c (cu C) (n, z, G, V1) := by
    intro V1 e1
    unfold F_X6_readCity_J145_6
    exact E_gd ⟨hG, hc⟩ (E_bd (k6_here hG hs.1) (E_bd e1 rfl))
  have mk : ∀ {F : Option (mW × Nat × Int)}, B_X6_readCity_6 r c (cu C) (n, z, G, V) = F → (∃ G' V', F = some ((n, z, G', V'), 0, cu C + 1) ∧ gE r x G G' ∧ (is6 G' r ∧ is1 G' c) ∧ frj r (fun i => i = r ∨ (c ≤ i ∧ i ≤ c + 40)) V V' ∧ gI V' r 10 = gI V r 10 ∧ oC G' V' r c T (aSt C T p)) → (∃ G' V', B_X6_readCity_6 r c (cu C) (n, z, G, V) = some ((n, z, G', V'), 0, cu C + 1) ∧ gE r x G G' ∧ (is6 G' r ∧ is1 G' c) ∧ frj r (fun i => i = r ∨ (c ≤ i ∧ i ≤ c + 40)) V V' ∧ gI V' r 10 = gI V r 10 ∧ oC G' V' r c T (aSt C T p)) := by
    intro F e hh; rw [e]; exact hh
  by_cases u70 : cu C = 70
  · refine mk (pre _ rfl) (flt (k := 5) ⟨by decide, by decide⟩ (fun V1 e1 => ?_) ?_)
    · rw [if_pos u70]; exact J53 V1 e1
    · unfold aSt1; rw [if_pos u70]
  have hm := c_many hc h hw
  by_cases tm : (nmT T p = 0 ∧ cn C = 10) ∨ (nmT T p = 2 ∧ ct C = 8) ∨ (nmT T p = 4 ∧ (cd C).length = 24) ∨ (8 ≤ nmT T p ∧ nmT T p ≤ 11 ∧ co C (nmT T p - 8).toNat ≠ [])
  · rw [if_pos tm] at hm
    refine mk (pre _ rfl) (flt (k := 5) ⟨by decide, by decide⟩ (fun V1 e1 => ?_) ?_)
    · rw [if_neg u70]
      exact E_bd hm (E_gd (by decide) (E_if (fun y => absurd y (by decide)) (fun _ => J53 V1 e1)))
    · unfold aSt1
      rw [if_neg u70]
      rcases tm with ⟨a, b⟩ | ⟨a, b⟩ | ⟨a, b⟩ | ⟨a, b, d⟩
      · rw [if_pos a, if_pos b]
      · rw [if_neg (by omega), if_pos a, if_pos b]
      · rw [if_neg (by omega), if_neg (by omega), if_pos a, if_pos b]
      · rw [if_neg (by omega), if_neg (by omega), if_neg (by omega), if_neg (by omega), if_neg (by omega), if_pos ⟨a, b⟩, if_pos d]
  rw [if_neg tm] at hm
  have pre2 : ∀ res, (if nmT T p = 0 then (F_X6_readCity_J74_6 r c (cu C) (nmT T p) (n, z, G, V)) else (if nmT T p = 2 then (F_X6_readCity_J74_6 r c (cu C) (nmT T p) (n, z, G, V)) else (if nmT T p = 4 then (bd (F_X6_readDuty G r c V) fun V76 v77 =>
  F_X6_readCity_J154_6 r c (cu C) (n, z, G, V76)) else (if nmT T p = 6 then (bd (F_X6_readCover G r c V) fun V73 v74 =>
  F_X6_readCity_J154_6 r c (cu C) (n, z, G, V73)) else (if nmT T p = 7 then (bd (F_X6_readKnowing G r c V) fun V70 v71 =>
  F_X6_readCity_J154_6 r c (cu C) (n, z, G, V70)) else (if nmT T p < 8 then (F_X6_readCity_J145_6 r c (cu C) (n, z, G, V)) else (if 11 < nmT T p then (F_X6_readCity_J145_6 r c (cu C) (n, z, G, V)) else (bd (F_X6_readRule r c (nmT T p) (n, z, G, V)) fun W65 v66 =>
  gd (is6 W65.2.2.1 r ∧ is1 W65.2.2.1 c) <|
  F_X6_readCity_J154_6 r c (cu C) (W65.1, W65.2.1, W65.2.2.1, W65.2.2.2))))))))) = res → B_X6_readCity_6 r c (cu C) (n, z, G, V) = res := by
    intro res e
    refine pre _ ?_
    rw [if_neg u70]
    exact E_bd hm (E_gd (by decide) (E_if (fun _ => E_gd hw e) (fun y => absurd rfl y)))
  by_cases w0 : nmT T p = 0
  · obtain ⟨V1, e1, k1, k2, r1, g1, g2⟩ := c_given hG hc hT hd h hs (sort := 0) (Or.inl ⟨rfl, by have := h.1.1; omega⟩)
    rw [if_pos rfl] at r1 g1 g2
    rw [if_pos rfl] at r1 g1 g2
    refine mk (pre2 _ rfl) (got (V1 := V1) (y := toC (aGv C T 1 9 (nxT T p)) (addP C (ltr T (nxT T p) (lnT T (nxT T p))) (vlT T (nxT T (nxT T (nxT T p)))))) ?_ k1 (fun i q => by omega) k2 (oC_to hc r1 g1 (fun q hq => by have := g2 q hq; rw [if_pos rfl] at this; exact this)) ?_)
    · rw [if_pos w0, w0]
      unfold F_X6_readCity_J74_6
      exact E_gd ⟨hG, hc⟩ (E_bd e1 rfl)
    · unfold aSt1; rw [if_neg u70, if_pos w0, if_neg (by omega)]
  by_cases w2 : nmT T p = 2
  · obtain ⟨V1, e1, k1, k2, r1, g1, g2⟩ := c_given hG hc hT hd h hs (sort := 2) (Or.inr ⟨rfl, by have := h.1.2.1; omega⟩)
    rw [if_neg (by decide)] at r1 g1 g2
    rw [if_neg (by decide)] at r1 g1 g2
    refine mk (pre2 _ rfl) (got (V1 := V1) (y := toC (aGv C T 3 99 (nxT T p)) (addT C (ltr T (nxT T p) (lnT T (nxT T p))) (vlT T (nxT T (nxT T (nxT T p)))))) ?_ k1 (fun i q => by omega) k2 (oC_to hc r1 g1 (fun q hq => by have := g2 q hq; rw [if_neg (by decide)] at this; exact this)) ?_)
    · rw [if_neg w0, if_pos w2, w2]
      unfold F_X6_readCity_J74_6
      exact E_gd ⟨hG, hc⟩ (E_bd e1 rfl)
    · unfold aSt1; rw [if_neg u70, if_neg w0, if_pos w2, if_neg (by omega)]
  by_cases w4 : nmT T p = 4
  · obtain ⟨V1, e1, k1, k2, r1, g1, g2⟩ := c_duty hG hc hT hd h (by have := h.1.2.2.1.1; omega) hs
    refine mk (pre2 _ rfl) (got (V1 := V1) (y := toC (aDu C T (nxT T p)) (addD C (aDuD C T (nxT T p)))) ?_ k1 (fun i q => by omega) k2 (oC_to hc r1 g1 g2) ?_)
    · rw [if_neg w0, if_neg w2, if_pos w4]
      exact E_bd e1 rfl
    · unfold aSt1; rw [if_neg u70, if_neg w0, if_neg w2, if_pos w4, if_neg (by omega)]
  by_cases w6 : nmT T p = 6
  · obtain ⟨V1, e1, k1, k2, r1, g1, g2⟩ := c_cover hG hc hT hd h hs
    refine mk (pre2 _ rfl) (got (V1 := V1) (y := toC (aCo C T (nxT T p)) (addC C (aPi C T (nxT T p)) (aPi C T (nxT T (nxT T p))))) ?_ k1 (fun i q => by omega) k2 (oC_to hc r1 g1 g2) ?_)
    · rw [if_neg w0, if_neg w2, if_neg w4, if_pos w6]
      exact E_bd e1 rfl
    · unfold aSt1; rw [if_neg u70, if_neg w0, if_neg w2, if_neg w4, if_pos w6]
  by_cases w7 : nmT T p = 7
  · obtain ⟨V1, e1, k1, k2, r1, g1, g2⟩ := c_knows hG hc hT hd h hs
    refine mk (pre2 _ rfl) (got (V1 := V1) (y := toC (aKn C T (nxT T p)) (addK C (aPi C T (nxT T p)) (aPi C T (nxT T (nxT T p))) (vlT T (nxT T (nxT T (nxT T p)))))) ?_ k1 (fun i q => by omega) k2 (oC_to hc r1 g1 g2) ?_)
    · rw [if_neg w0, if_neg w2, if_neg w4, if_neg w6, if_pos w7]
      exact E_bd e1 rfl
    · unfold aSt1; rw [if_neg u70, if_neg w0, if_neg w2, if_neg w4, if_neg w6, if_pos w7]
  by_cases w8 : 8 ≤ nmT T p ∧ nmT T p ≤ 11
  · have hcs : co C (nmT T p - 8).toNat = [] := Classical.byContradiction (fun q => tm (Or.inr (Or.inr (Or.inr ⟨w8.1, w8.2, q⟩))))
    obtain ⟨G1, V1, e1, hg, ⟨i6, i1⟩, kj, k10, o⟩ := c_rule (x := x) (n := n) (z := z) hG hc hT hd hx h (w := (nmT T p - 8).toNat) (by omega) hcs hs
    rw [show 8 + (((nmT T p - 8).toNat : Nat) : Int) = nmT T p by omega] at e1
    obtain ⟨V2, e2, k2, k3, o2⟩ := c_end (n := n) (z := z) (x2 := cu C) i6 i1 hT hd o
    refine ⟨G1, V2, pre2 _ ?_, hg, ⟨i6, i1⟩, (kj.mono (fun i q => by omega)).trans ((k2.mono (fun i q => by omega)).j), k3.trans k10, ?_⟩
    · rw [if_neg w0, if_neg w2, if_neg w4, if_neg w6, if_neg w7, if_neg (by omega), if_neg (by omega)]
      exact E_bd e1 (E_gd ⟨i6, i1⟩ e2)
    · unfold aSt aSt1
      rw [if_neg u70, if_neg w0, if_neg w2, if_neg w4, if_neg w6, if_neg w7, if_pos w8, if_neg (fun q => q hcs)]
      exact o2
  · refine mk (pre2 _ rfl) (flt (k := 1) ⟨by decide, by decide⟩ (fun V1 e1 => ?_) ?_)
    · rw [if_neg w0, if_neg w2, if_neg w4, if_neg w6, if_neg w7]
      by_cases y : nmT T p < 8
      · rw [if_pos y]; exact J145 V1 e1
      · rw [if_neg y, if_pos (by omega)]; exact J145 V1 e1
    · unfold aSt1; rw [if_neg u70, if_neg w0, if_neg w2, if_neg w4, if_neg w6, if_neg w7, if_neg w8]
end

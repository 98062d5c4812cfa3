/-! an hour comes: the class -/
theorem tm24 {h : Int} (h0 : 0 ≤ h) : h.tmod 24 = h % 24 ∧ h.tdiv 24 = h / 24 := ⟨Int.tmod_eq_emod_of_nonneg h0, Int.tdiv_eq_ediv_of_nonneg h0⟩
theorem made_rg {C : mCy} {w : Nat} {p l pts clock day : Int} (h : 0 ≤ pts ∧ pts ≤ 99) : 0 ≤ made C w p l pts clock day ∧ made C w p l pts clock day ≤ 99 := by
  unfold made; split
  · exact h
  · omega
theorem vP.cg {V : mV} {r : Nat} {n : Int} {g g' : Int → Int → Int} (h : vP V r n g) (e : ∀ a b, 0 ≤ a → a < n → 0 ≤ b → b < n → g' a b = g a b) : vP V r n g' :=
  ⟨h.1, fun a b p q s t => by rw [e a b p q s t]; exact h.2 a b p q s t⟩
theorem vM.cgP {V : mV} {mo : Nat} {n B : Int} {h : Int} {l w : Int → Int} {g g' : Int → Int → Int} {k : List (Int × Int × Int × Int)} (q : vM V mo n (h, l, w, g, k) B) (e : ∀ a b, 0 ≤ a → a < n → 0 ≤ b → b < n → g' a b = g a b) : vM V mo n (h, l, w, g', k) B :=
  ⟨q.1, q.2.1, q.2.2.1, q.2.2.2.1.cg e, q.2.2.2.2.1, q.2.2.2.2.2⟩
/-- what hours change -/
def sH (cr c mo i : Nat) : Prop := i = cr + 2 ∨ (cr + 6 ≤ i ∧ i ≤ cr + 10) ∨ isSk c i ∨ (mo ≤ i ∧ i ≤ mo + 8)
def sW (cr c mo i : Nat) : Prop := i = cr + 2 ∨ isSk c i ∨ (mo ≤ i ∧ i ≤ mo + 8)
section
variable {G : mG} {V : mV} {cr c mo : Nat} {C : mCy} {B : Int} {n : Int}
theorem m_home (hm : is4 G mo) (hn : 0 ≤ n ∧ n ≤ 10) : ∃ V', F_X4_goHome G mo n V = some (V', 0) ∧ fr (fun i => i = mo + 1 ∨ i = mo + 2) V V' ∧ rw' V' (mo + 1) n (fun p => p) := by
  have hq := s4_1c hm
  have hq2 : ((qG G (mo + 1 + 1) : Nat) : Int) = 10 := by rw [show qG G (mo + 1 + 1) = 10 from hq]; rfl
  have hf := p7_fill (V := V) (v := 0) (s4_1s hm) (show rg n from ⟨by omega, by omega⟩)
  have hmin : min (max n 0) ((qG G (mo + 1 + 1) : Nat) : Int) = n := by rw [hq2]; omega
  have hV1 : rfill V (mo + 1) (qG G (mo + 1 + 1)) n 0 = sF (sI V (mo + 1) 1 n) (mo + 2) (fun j => if (j : Int) < n then 0 else gA V (mo + 2) j) := by
    unfold rfill rset; rw [hmin]; rfl
  rw [hV1] at hf
  have hsz : ∀ g, gI (sF (sI V (mo + 1) 1 n) (mo + 2) g) (mo + 1) 1 = n := fun g => by rw [gI_sF, gI_sI, if_pos ⟨rfl, rfl⟩]
  have key := E_for (B := fun (s : Int) V => B_X4_goHome_11 G mo n s V) (t := 1) (by decide) (fun j => (j : Int)) (fun k => sF (sI V (mo + 1) 1 n) (mo + 2) (fun j => if j < k then (j : Int) else if (j : Int) < n then 0 else gA V (mo + 2) j)) n.toNat ?_ ?_ FU (by unfold FU; omega)
  · have e0 : sF (sI V (mo + 1) 1 n) (mo + 2) (fun j => if j < 0 then (j : Int) else if (j : Int) < n then 0 else gA V (mo + 2) j) = sF (sI V (mo + 1) 1 n) (mo + 2) (fun j => if (j : Int) < n then 0 else gA V (mo + 2) j) := sF_cg (fun b => by rw [if_neg (by omega)])
    rw [e0] at key
    refine ⟨_, by unfold F_X4_goHome; exact E_bd hf (E_bd key rfl), (fr_sI (Or.inl rfl)).trans (fr_sF (Or.inr rfl)), hsz _, fun j h0 h1 => ?_⟩
    show gA (sF (sI V (mo + 1) 1 n) (mo + 2) _) (mo + 2) j.toNat = j
    rw [gA_sF, if_pos rfl, if_pos (by omega)]; omega
  · intro k hk
    unfold B_X4_goHome_11
    refine E_gd ⟨by omega, by omega⟩ (E_gd ⟨by omega, by omega⟩ (E_if (fun q => by omega) (fun _ => ?_)))
    refine E_bd (p7_put (s4_1s hm) (rw_rz hq (hsz _) ⟨by omega, by omega⟩) ⟨by omega, by omega⟩) (E_lt (E_so ?_ ?_))
    · unfold rput
      rw [if_pos ⟨by omega, by rw [hsz]; omega⟩]
      show sA (sF (sI V (mo + 1) 1 n) (mo + 2) _) (mo + 2) ((k : Int)).toNat (k : Int) = _
      rw [sA_sF, sF_sF]
      refine sF_cg (fun b => ?_)
      rw [gA_sF, if_pos rfl]
      by_cases hb : b = k
      · subst hb; rw [if_pos (by omega), if_pos (by omega)]
      · rw [if_neg (by omega)]
        by_cases hb2 : b < k
        · rw [if_pos hb2, if_pos (by omega)]
        · rw [if_neg hb2, if_neg (show ¬ b < k + 1 by omega)]
    · show ((0 : Nat), (k : Int) + 1) = (0, ((k + 1 : Nat) : Int)); congr 1
  · unfold B_X4_goHome_11
    exact E_gd ⟨by omega, by omega⟩ (E_gd ⟨by omega, by omega⟩ (E_if (fun _ => rfl) (fun q => by omega)))
theorem c_learned (hG : is2 G cr) (hc : is1 G c) (ho : okC C) (hv : vC V c C) (hk : kC V cr) (hd : cr + 10 < c) {h p l pts : Int} (hh : 0 ≤ h ∧ h ≤ 9999) (hp : 0 ≤ p ∧ p < cn C) (hl : 0 ≤ l ∧ l < cn C) (hpt : 0 ≤ pts ∧ pts ≤ 99) :
    ∃ V', F_X2_learned G cr c h p l pts V = some (V', made C 0 p l pts (h % 24) (h / 24)) ∧ kC V' cr ∧ fr (sT cr c) V V' ∧ (∀ a b, tmK V cr a b → a = h % 24 → b = h / 24 → tmK V' cr a b) := by
  obtain ⟨t1, t2⟩ := tm24 hh.1
  by_cases hcs : co C 0 = []
  · refine ⟨V, ?_, hk, fr_refl, fun a b q _ _ => q⟩
    unfold F_X2_learned made
    rw [if_pos hcs]
    refine E_bd (p3_told hv.1.1) ?_
    rw [if_pos hcs]
    exact E_gd (by decide) (E_if (fun _ => rfl) (fun q => absurd rfl q))
  · obtain ⟨V1, e1, k1, f1, m1⟩ := c_time hG hk (a := h % 24) (b := h / 24) ⟨by omega, by omega⟩ ⟨by omega, by omega⟩
    have v1 := hv.fr f1 (fun i h1 h2 _ => by omega)
    obtain ⟨V2, V3, x, e2, e3, k3, f3, m3, bx, ex⟩ := c_made hG hc ho v1 k1 hd (Or.inl rfl) hcs hp hl hpt m1
    refine ⟨V3, ?_, k3, (f1.mono (fun i q => Or.inl q)).trans f3, fun a b _ ha hb => by rw [ha, hb]; exact m3⟩
    unfold F_X2_learned
    refine E_bd (p3_told hv.1.1) ?_
    rw [if_neg hcs]
    refine E_gd (by decide) (E_if (fun q => absurd q (by decide)) (fun _ => E_gd ⟨by omega, by omega⟩ ?_))
    rw [t1, t2]
    refine E_bd e1 (E_bd e2 (E_bd e3 (E_gd ⟨by omega, by omega⟩ (E_gd ⟨by omega, by omega⟩ (E_so rfl ex.symm)))))
theorem c_night (hG : is2 G cr) (hc : is1 G c) (hm : is4 G mo) (ho : okC C) (hv : vC V c C) (hk : kC V cr) (hmo : cr + 10 < mo) (hd : mo + 8 < c) {M : mMo} (hM : vM V mo (cn C) M B) (hoM : okM (cn C) M) {day : Int} (htm : tmK V cr 0 day) :
    ∃ V', F_X2_passNight G cr c mo V = some (V', 0) ∧ fr (sW cr c mo) V V' ∧ vC V' c C ∧ kC V' cr ∧ tmK V' cr 0 day ∧ vM V' mo (cn C) (nightM C M day) B := by
  have hn := ho.1
  have hsz : ∀ {U : mV}, vC U c C → gI U (c + 1) 1 = cn C := fun h => h.2.1.1.1
  obtain ⟨V1, e1, f1, r1⟩ := m_home (V := V) hm hn
  have v1 := hv.fr f1 (fun i a b _ => by omega)
  have k1 := hk.fr f1 (by omega) (by omega)
  have t1 := htm.fr f1 (by omega)
  have m1 : vM V1 mo (cn C) (mh M, fun p => p, mw M, mp M, me M) B := by
    obtain ⟨a, b, c1, d, e, f⟩ := hM
    refine ⟨by rw [f1.I (by omega)]; exact a, r1, c1.fr f1 (by omega) (by omega), d.fr f1 (by omega) (by omega), by rw [f1.I (by omega)]; exact e, ?_⟩
    rw [f1.I (by omega)]; exact f.fr f1 (by omega) (by omega)
  have F1 : fr (sW cr c mo) V V1 := f1.mono (fun i q => by unfold sW; omega)
  by_cases hcs : co C 1 = []
  · refine ⟨V1, ?_, F1, v1, k1, t1, m1.cgP (fun a b _ _ _ _ => ?_)⟩
    · unfold F_X2_passNight
      refine E_bd p7_size ?_
      rw [hsz hv]
      refine E_bd e1 (E_bd (p3_told v1.1.2.1) ?_)
      rw [if_pos hcs]
      exact E_gd (by decide) (E_if (fun _ => rfl) (fun q => absurd rfl q))
    · show (if a = b then mp M a b else made C 1 a b (mp M a b) 0 day) = mp M a b
      unfold made; rw [if_pos hcs]; split <;> rfl
  · have hpt : ∀ a b, 0 ≤ a → a < cn C → 0 ≤ b → b < cn C → 0 ≤ mp M a b ∧ mp M a b ≤ 99 := fun a b p q s t => hoM.2.2.2.2.1 a b p q s t
    let N : Int → Int → Int := fun a b => if a = b then mp M a b else made C 1 a b (mp M a b) 0 day
    let gk : Int → Int → Int → Int → Int := fun p l a b => if a < p ∨ (a = p ∧ b < l) then N a b else mp M a b
    have gk1 : ∀ p a b, 0 ≤ a → a < cn C → 0 ≤ b → b < cn C → gk (p + 1) 0 a b = gk p (cn C) a b := by
      intro p a b h1 h2 h3 h4
      show (if a < p + 1 ∨ (a = p + 1 ∧ b < 0) then N a b else mp M a b) = (if a < p ∨ (a = p ∧ b < cn C) then N a b else mp M a b)
      by_cases q : a < p + 1
      · rw [if_pos (Or.inl q), if_pos (by omega)]
      · rw [if_neg (by omega), if_neg (by omega)]
    -- one row
    have inner : ∀ (p : Int), 0 ≤ p → p < cn C → ∀ U, fr (sW cr c mo) V U → vC U c C → kC U cr → tmK U cr 0 day → vM U mo (cn C) (mh M, fun p => p, mw M, gk p 0, me M) B →
        Wp (lp (fun (s : Int) V => B_X2_passNight_36 G cr c mo (cn C) p s V) FU 0 U) (fun U' q => q.1 = 1 ∧ fr (sW cr c mo) V U' ∧ vC U' c C ∧ kC U' cr ∧ tmK U' cr 0 day ∧ vM U' mo (cn C) (mh M, fun p => p, mw M, gk p (cn C), me M) B) := by
      intro p hp0 hp1 U hf hvU hkU htU hMU
      refine W_lp (fun w l U => 0 ≤ l ∧ l + w = cn C ∧ fr (sW cr c mo) V U ∧ vC U c C ∧ kC U cr ∧ tmK U cr 0 day ∧ vM U mo (cn C) (mh M, fun p => p, mw M, gk p l, me M) B) ?_ FU (cn C).toNat 0 U ⟨by omega, by omega, hf, hvU, hkU, htU, hMU⟩ (by unfold FU; omega)
      rintro w l U ⟨h0, hlw, hf, hvU, hkU, htU, hMU⟩
      unfold B_X2_passNight_36
      refine W_gd ⟨by omega, by omega⟩ (W_gd ⟨by omega, by omega⟩ (W_if (fun q => W_so (Or.inr ⟨Nat.one_ne_zero, rfl, ?_⟩)) (fun q => W_gd ⟨by omega, by omega⟩ (W_if (fun q2 => ?_) (fun q2 => ?_)))))
      · have : l = cn C := by omega
        subst this
        exact ⟨hf, hvU, hkU, htU, hMU⟩
      · refine W_lt (W_so (Or.inl ⟨rfl, w - 1, by omega, by show 0 ≤ l + 1; omega, by show l + 1 + ((w - 1 : Nat) : Int) = cn C; omega, hf, hvU, hkU, htU, hMU.cgP (fun a b a1 a2 b1 b2 => ?_)⟩))
        show (if a < p ∨ (a = p ∧ b < l + 1) then N a b else mp M a b) = (if a < p ∨ (a = p ∧ b < l) then N a b else mp M a b)
        by_cases e : a = p ∧ b = l
        · rw [if_pos (by omega), if_neg (by omega)]
          show (if a = b then mp M a b else _) = _
          rw [if_pos (by omega)]
        · by_cases e2 : a < p ∨ (a = p ∧ b < l)
          · rw [if_pos e2, if_pos (by omega)]
          · rw [if_neg e2, if_neg (by omega)]
      · have hl1 : l < cn C := by omega
        have hcur : gk p l p l = mp M p l := by show (if p < p ∨ (p = p ∧ l < l) then _ else _) = _; rw [if_neg (by omega)]
        have hptl := hpt p l hp0 hp1 h0 hl1
        have g0 := m_points hm (by omega) hMU ⟨hp0, hp1⟩ ⟨h0, hl1⟩
        have g0' : F_X4_pointsOf G mo p l U = some (U, mp M p l) := by rw [g0]; show some (U, gk p l p l) = _; rw [hcur]
        obtain ⟨U1, U2, x, g1, g2, k2, f2, t2, bx, ex⟩ := c_made hG hc ho hvU hkU (by omega) (Or.inr rfl) hcs ⟨hp0, hp1⟩ ⟨h0, hl1⟩ hptl htU
        have v2 := hvU.fr f2 (fun i a b q => by unfold sT; rintro (h | h); omega; exact q h)
        have m2 := hMU.fr f2 (fun i a b => by unfold sT isSk; omega)
        obtain ⟨U3, g3, f3, m3⟩ := m_setP hm (by omega) m2 (v := x) ⟨hp0, hp1⟩ ⟨h0, hl1⟩ ⟨by omega, by omega⟩
        refine W_be g0' (W_be g1 (W_be g2 (W_be g3 (W_lt (W_so (Or.inl ⟨rfl, w - 1, by omega, by show 0 ≤ l + 1; omega, by show l + 1 + ((w - 1 : Nat) : Int) = cn C; omega, ?_, v2.fr f3 (fun i a b _ => by omega), k2.fr f3 (by omega) (by omega), t2.fr f3 (by omega), m3.cgP (fun a b a1 a2 b1 b2 => ?_)⟩))))))
        · exact (hf.trans (f2.mono (fun i q => by simp only [sW, sT, isSk] at q ⊢; omega))).trans (f3.mono (fun i q => by unfold sW; omega))
        · show (if a < p ∨ (a = p ∧ b < l + 1) then N a b else mp M a b) = ug (gk p l) p l (max 0 (min 99 x)) a b
          unfold ug
          by_cases e : a = p ∧ b = l
          · rw [if_pos (by omega), if_pos e]
            obtain ⟨e1, e2⟩ := e
            subst e1; subst e2
            show (if a = b then _ else made C 1 a b (mp M a b) 0 day) = _
            rw [if_neg (by omega), ex]
          · rw [if_neg e]
            show _ = (if a < p ∨ (a = p ∧ b < l) then N a b else mp M a b)
            by_cases e2 : a < p ∨ (a = p ∧ b < l)
            · rw [if_pos e2, if_pos (by omega)]
            · rw [if_neg e2, if_neg (by omega)]
    have outer : Wp (lp (fun (s : Int) V => B_X2_passNight_27 G cr c mo (cn C) s V) FU 0 V1) (fun U' q => fr (sW cr c mo) V U' ∧ vC U' c C ∧ kC U' cr ∧ tmK U' cr 0 day ∧ vM U' mo (cn C) (mh M, fun p => p, mw M, gk (cn C) 0, me M) B) := by
      refine W_lp (fun w p U => 0 ≤ p ∧ p + w = cn C ∧ fr (sW cr c mo) V U ∧ vC U c C ∧ kC U cr ∧ tmK U cr 0 day ∧ vM U mo (cn C) (mh M, fun p => p, mw M, gk p 0, me M) B) ?_ FU (cn C).toNat 0 V1 ⟨by omega, by omega, F1, v1, k1, t1, m1.cgP (fun a b a1 _ b1 _ => by show (if a < 0 ∨ (a = 0 ∧ b < 0) then _ else _) = _; rw [if_neg (by omega)])⟩ (by unfold FU; omega)
      rintro w p U ⟨h0, hpw, hf, hvU, hkU, htU, hMU⟩
      unfold B_X2_passNight_27
      refine W_gd ⟨by omega, by omega⟩ (W_gd ⟨by omega, by omega⟩ (W_if (fun q => W_so (Or.inr ⟨Nat.one_ne_zero, ?_⟩)) (fun q => ?_)))
      · have : p = cn C := by omega
        subst this
        exact ⟨hf, hvU, hkU, htU, hMU⟩
      · refine W_bd (inner p h0 (by omega) U hf hvU hkU htU hMU) (fun U' q' hq => W_lt (W_so (Or.inl ⟨rfl, w - 1, by omega, by show 0 ≤ p + 1; omega, by show p + 1 + ((w - 1 : Nat) : Int) = cn C; omega, hq.2.1, hq.2.2.1, hq.2.2.2.1, hq.2.2.2.2.1, hq.2.2.2.2.2.cgP (gk1 p)⟩)))
    obtain ⟨V2, q2, e2, f2, v2, k2, t2, m2⟩ := outer
    refine ⟨V2, ?_, f2, v2, k2, t2, m2.cgP (fun a b a1 a2 b1 b2 => ?_)⟩
    · unfold F_X2_passNight
      refine E_bd p7_size ?_
      rw [hsz hv]
      refine E_bd e1 (E_bd (p3_told v1.1.2.1) ?_)
      rw [if_neg hcs]
      exact E_gd (by decide) (E_if (fun q => absurd q (by decide)) (fun _ => E_bd e2 rfl))
    · show (if a = b then mp M a b else made C 1 a b (mp M a b) 0 day) = (if a < cn C ∨ (a = cn C ∧ b < 0) then N a b else mp M a b)
      rw [if_pos (Or.inl a2)]
end

/-! duties, both sides -/
theorem nKn_i {f : Int → List Int} {n : Int} {T : mT2} {p q : Nat} (h : nKn f n T p = .inr q) : q = nxT T p ∧ (0 ≤ fl f (ltr T p (lnT T p)) 0 n.toNat ∧ fl f (ltr T p (lnT T p)) 0 n.toNat < max n 0) := by
  unfold nKn at h
  cases hN : nNa T p with
  | inl e => rw [hN] at h; cases h
  | inr q' =>
    rw [hN] at h
    have h' : (if fl f (ltr T p (lnT T p)) 0 n.toNat = -1 then .inl (3, (p : Int)) else .inr q' : (Int × Int) ⊕ Nat) = .inr q := h
    by_cases c : fl f (ltr T p (lnT T p)) 0 n.toNat = -1
    · rw [if_pos c] at h'; cases h'
    · rw [if_neg c] at h'
      cases h'
      refine ⟨(nNa_ok hN).2.2.1, ?_⟩
      rcases fl_rg f (ltr T p (lnT T p)) n.toNat 0 with ⟨a, -⟩ | ⟨a, b, -⟩
      · exact absurd a c
      · omega
def aDuD (C : mCy) (T : mT2) (p : Nat) : Int × Int × Int := (fl (cp C) (ltr T p (lnT T p)) 0 (cn C).toNat, fl (cq C) (ltr T (nxT T p) (lnT T (nxT T p))) 0 (ct C).toNat, vlT T (nxT T (nxT T (nxT T p))))
def aDu4 (C : mCy) (T : mT2) (p : Nat) : (Int × Int) ⊕ Nat := thn (thn (thn (nKn (cp C) (cn C) T p) (nKn (cq C) (ct C) T)) (nWd T 5)) (nNu T 23)
def aDu (C : mCy) (T : mT2) (p : Nat) : (Int × Int) ⊕ Nat := thn (aDu4 C T p) (fun r => if aDuD C T p ∈ cd C then .inl (2, ((nxT T (nxT T (nxT T p)) : Nat) : Int)) else .inr r)
def addD (C : mCy) (d : Int × Int × Int) : mCy := (C.1, C.2.1, ck C, cd C ++ [d], co C, cp C, cq C)
theorem aDu4_i {C : mCy} {T : mT2} {p q : Nat} (h : aDu4 C T p = .inr q) : nKn (cp C) (cn C) T p = .inr (nxT T p) ∧ nKn (cq C) (ct C) T (nxT T p) = .inr (nxT T (nxT T p)) ∧ thn (thn (nKn (cp C) (cn C) T p) (nKn (cq C) (ct C) T)) (nWd T 5) = .inr (nxT T (nxT T (nxT T p))) ∧ thn (nKn (cp C) (cn C) T p) (nKn (cq C) (ct C) T) = .inr (nxT T (nxT T p)) ∧ nNu T 23 (nxT T (nxT T (nxT T p))) = .inr q := by
  unfold aDu4 at h
  obtain ⟨p3, h1, h2⟩ := thn_r h
  obtain ⟨p2, h3, h4⟩ := thn_r h1
  obtain ⟨p1, h5, h6⟩ := thn_r h3
  have a := (nKn_i h5).1
  subst a
  have b := (nKn_i h6).1
  subst b
  have c := nWd_i h4
  subst c
  exact ⟨h5, h6, h1, h3, h2⟩
theorem okD_d {C : mCy} {T : mT2} {p q : Nat} (ho : okC C) (h : aDu4 C T p = .inr q) : okD (cn C) (ct C) (aDuD C T p) := by
  obtain ⟨h1, h2, -, -, h5⟩ := aDu4_i h
  have a := (nKn_i h1).2
  have b := (nKn_i h2).2
  have i := nNu_i h5
  have v := (vl_1r i.1).1
  have hn := ho.1
  have ht := ho.2.1
  refine ⟨⟨a.1, ?_⟩, ⟨b.1, ?_⟩, ⟨v, ?_⟩⟩
  · show fl (cp C) (ltr T p (lnT T p)) 0 (cn C).toNat < cn C; omega
  · show fl (cq C) (ltr T (nxT T p) (lnT T (nxT T p))) 0 (ct C).toNat < ct C; omega
  · show vlT T (nxT T (nxT T (nxT T p))) < 24; have := i.2.2.1; omega
theorem okC_D {C : mCy} {d : Int × Int × Int} (h : okC C) (hl : (cd C).length < 24) (hd : okD (cn C) (ct C) d) : okC (addD C d) := by
  obtain ⟨a1, a2, ⟨a3, a4⟩, a5⟩ := h
  refine ⟨a1, a2, ⟨?_, fun e he => ?_⟩, a5⟩
  · show (cd C ++ [d]).length ≤ 24
    rw [List.length_append, List.length_singleton]; omega
  · rcases List.mem_append.mp (show e ∈ cd C ++ [d] from he) with y | y
    · exact a4 e y
    · rw [List.mem_singleton] at y; rw [y]; exact hd
section
variable {G : mG} {V V' : mV} {c r m : Nat} {C : mCy} {T : mT2}
theorem S_kp (hG : is6 G r) (hc : is1 G c) (hT : tOk T) (hd : r + 12 < c) (h : bC V c C) {x : (Int × Int) ⊕ Nat} (hs : rs6 V r T x) : ∃ V' v, F_X6_takeKnown G r (c + 1) V = some (V', v) ∧ f6 r V V' ∧ rs6 V' r T (thn x (nKn (cp C) (cn C) T)) ∧ (-1 ≤ v ∧ v < 10) ∧ (∀ p q, x = .inr p → nKn (cp C) (cn C) T p = .inr q → v = fl (cp C) (ltr T p (lnT T p)) 0 (cn C).toNat ∧ 0 ≤ v) := by
  have hn := h.1.1
  obtain ⟨V1, v1, a, b, d, e, g⟩ := S_kn (row := c + 1) hG hT hs (s1_0s hc) (s1_0c hc) hn (by decide) ⟨by omega, by omega⟩ h.2.2.1.2.1.1 h.2.1.1
  exact ⟨V1, v1, a, b, d, by omega, g⟩
theorem S_kt (hG : is6 G r) (hc : is1 G c) (hT : tOk T) (hd : r + 12 < c) (h : bC V c C) {x : (Int × Int) ⊕ Nat} (hs : rs6 V r T x) : ∃ V' v, F_X6_takeKnown G r (c + 11) V = some (V', v) ∧ f6 r V V' ∧ rs6 V' r T (thn x (nKn (cq C) (ct C) T)) ∧ (-1 ≤ v ∧ v < 10) ∧ (∀ p q, x = .inr p → nKn (cq C) (ct C) T p = .inr q → v = fl (cq C) (ltr T p (lnT T p)) 0 (ct C).toNat ∧ 0 ≤ v) := by
  have hn := h.1.2.1
  obtain ⟨V1, v1, a, b, d, e, g⟩ := S_kn (row := c + 11) hG hT hs (s1_5s hc) (s1_5c hc) hn (by decide) ⟨by omega, by omega⟩ h.2.2.1.2.2.1.1 h.2.1.2
  exact ⟨V1, v1, a, b, d, by omega, g⟩
theorem c_bD (hc : is1 G c) (h : bC V c C) {d : Int × Int × Int} (hl : (cd C).length < 24) (hd : okD (cn C) (ct C) d) : ∃ V', F_X1_addDuty G c d.1 d.2.1 d.2.2 V = some (V', 0) ∧ fr (fun i => c + 15 ≤ i ∧ i ≤ c + 20) V V' ∧ bC V' c (addD C d) := by
  obtain ⟨ho, hN, ⟨hF, hP, hT, hD, hU⟩, hz⟩ := h
  have hn := ho.1
  have ht := ho.2.1
  obtain ⟨hd1, hd2⟩ := hd.1
  obtain ⟨B, b1, b2, b3⟩ := srt_ins (D := cd C) (d := d) (l := d.1.toNat) (by omega) ((cn C).toNat - (d.1.toNat + 1))
  rw [show d.1.toNat + 1 + ((cn C).toNat - (d.1.toNat + 1)) = (cn C).toNat by omega] at b1 b2
  have hsl := srt_len (cn C).toNat (cd C)
  rw [b1] at hD hsl
  obtain ⟨V1, e1, k1, w1⟩ := c_addDuty (A := srt (d.1.toNat + 1) (cd C)) (B := B) hc (by omega) hD (n := cn C) (t := ct C) ⟨by omega, by omega⟩ (fun e he => ho.2.2.1.2 e (srt_mem (by rw [b1]; exact he))) hd (fun e he => by have := srt_lt he; omega) b3
  refine ⟨V1, e1, k1, okC_D ho hl hd, hN, ⟨?_, ?_, ?_, ?_, ?_⟩, fun a b a0 a1 b0 b1' z => ?_⟩
  · obtain ⟨f1, f2, f3, f4⟩ := hF
    exact ⟨f1.fr k1 (by omega) (by omega) (by omega), f2.fr k1 (by omega) (by omega) (by omega), f3.fr k1 (by omega) (by omega) (by omega), f4.fr k1 (by omega) (by omega) (by omega)⟩
  · obtain ⟨n1, n2, n3, n4, n5⟩ := hP
    exact ⟨n1.fr k1 (by omega) (by omega), n2.fr k1 (by omega) (by omega), n3.fr k1 (by omega) (by omega), n4.fr k1 (by omega) (by omega), n5.fr k1 (by omega) (by omega)⟩
  · exact ⟨hT.1.fr k1 (by omega) (by omega), hT.2.fr k1 (by omega) (by omega)⟩
  · show vD V1 c (srt (cn C).toNat (cd C ++ [d]))
    rw [b2]; exact w1
  · rw [k1.I (by omega)]; exact hU
  · rw [rc_fr k1 (by omega)]; exact hz a b a0 a1 b0 b1' z
/-- the class reads a duty -/
theorem c_duty (hG : is6 G r) (hc : is1 G c) (hT : tOk T) (hd : r + 12 < c) (h : bC V c C) (hl : (cd C).length < 24) {p : Nat} (hs : rs6 V r T (.inr p)) :
    ∃ V', F_X6_readDuty G r c V = some (V', 0) ∧ fr (fun i => i = r ∨ (c + 15 ≤ i ∧ i ≤ c + 20)) V V' ∧ gI V' r 10 = gI V r 10 ∧ rs6 V' r T (aDu C T (nxT T p)) ∧ (∀ e, aDu C T (nxT T p) = .inl e → bC V' c C) ∧ (∀ q, aDu C T (nxT T p) = .inr q → bC V' c (addD C (aDuD C T (nxT T p)))) := by
  obtain ⟨V1, e1, k1, r1⟩ := S_take hG hs
  have r1' : rs6 V1 r T (.inr (nxT T p)) := r1
  have h1 := h.fr k1.1 (fun i a b => by omega)
  obtain ⟨V2, v2, e2, k2, r2, b2, c2⟩ := S_kp hG hc hT hd h1 r1'
  have h2 := h1.fr k2.1 (fun i a b => by omega)
  obtain ⟨V3, v3, e3, k3, r3, b3, c3⟩ := S_kt hG hc hT hd h2 r2
  obtain ⟨V4, e4, k4, r4⟩ := S_wd hG r3 (w := 5) (by decide)
  obtain ⟨w, e5, c5⟩ := S_here hG r4
  obtain ⟨V5, v5, e6, k6, r5, b6, c6⟩ := S_nu hG hT r4 (mx := 23) (by decide)
  have kk := (((k1.trans k2).trans k3).trans k4).trans k6
  have h5 := h.fr kk.1 (fun i a b => by omega)
  have r5' : rs6 V5 r T (aDu4 C T (nxT T p)) := r5
  have hn := h.1.1
  have ht := h.1.2.1
  have e7 := c_hasDuty (V := V5) hc (L := srt (cn C).toNat (cd C)) (Nat.le_trans (srt_len _ _) (by omega)) h5.2.2.1.2.2.2.1 (n := cn C) (t := ct C) ⟨by omega, by omega⟩ (fun d hd => h.1.2.2.1.2 d (srt_mem hd)) (x1 := v2) (x2 := v3) (x3 := v5) ⟨by omega, by omega⟩ ⟨by omega, by omega⟩ ⟨by omega, by omega⟩
  have top : ∀ res, (if (if (v2, v3, v5) ∈ srt (cn C).toNat (cd C) then (1 : Int) else 0) = 0 then (F_X6_readDuty_J59 G r c v2 v3 v5 V5) else (bd (F_X6_fail G r 2 (w : Int) V5) fun V32 v33 =>
  F_X6_readDuty_J59 G r c v2 v3 v5 V32)) = res → F_X6_readDuty G r c V = res := by
    intro res e
    unfold F_X6_readDuty
    exact E_bd e1 (E_bd e2 (E_bd e3 (E_bd e4 (E_bd e5 (E_bd e6 (E_bd e7 (E_gd (by split <;> decide) e)))))))
  have stop : ∀ (V6 : mV) (e : Int × Int), rs6 V6 r T (.inl e) → F_X6_readDuty_J59 G r c v2 v3 v5 V6 = some (V6, 0) := by
    intro V6 e he
    unfold F_X6_readDuty_J59
    exact E_bd (k6_bad he.bad.1 he.bad.2) (E_gd (by decide) (E_if (fun _ => rfl) (fun y => absurd rfl y)))
  cases hA : aDu4 C T (nxT T p) with
  | inl e =>
    have hAe : aDu C T (nxT T p) = .inl e := by unfold aDu; rw [hA]; rfl
    rw [hA] at r5'
    rw [hAe]
    refine ⟨V5, top _ (E_if (fun _ => stop V5 e r5') (fun _ => E_bd (k6_fail1 r5'.bad.1 r5'.bad.2) (stop V5 e r5'))), kk.1.mono (fun i q => Or.inl q), kk.2, r5', fun _ _ => h5, fun q z => by cases z⟩
  | inr q =>
    rw [hA] at r5'
    obtain ⟨i1, i2, i3, i4, i5⟩ := aDu4_i hA
    have ev2 := (c2 _ _ rfl i1).1
    have ev3 := (c3 _ _ i1 i2).1
    have ew := c5 _ i3
    have ev5 := c6 _ i3
    have ed : (v2, v3, v5) = aDuD C T (nxT T p) := by rw [ev2, ev3, ev5]; rfl
    have od := okD_d h.1 hA
    have em : ((v2, v3, v5) ∈ srt (cn C).toNat (cd C)) ↔ aDuD C T (nxT T p) ∈ cd C := by
      rw [ed]
      exact mem_srt h.1
    by_cases z : aDuD C T (nxT T p) ∈ cd C
    · have hAe : aDu C T (nxT T p) = .inl (2, ((nxT T (nxT T (nxT T (nxT T p))) : Nat) : Int)) := by unfold aDu; rw [hA]; exact if_pos z
      obtain ⟨V6, e8, k8, r8⟩ := S_fail (G := G) r5' (k := 2) (w := (w : Int)) ⟨by decide, by decide⟩
      have r8' : rs6 V6 r T (.inl (2, (w : Int))) := r8
      rw [hAe]
      rw [ew] at r8'
      refine ⟨V6, top _ ?_, (kk.trans k8).1.mono (fun i q => Or.inl q), (kk.trans k8).2, r8', fun _ _ => h5.fr k8.1 (fun i a b => by omega), fun q z => by cases z⟩
      rw [if_pos (em.mpr z), if_neg (by decide)]
      exact E_bd e8 (stop V6 _ r8')
    · have hAe : aDu C T (nxT T p) = .inr q := by unfold aDu; rw [hA]; exact if_neg z
      obtain ⟨V6, e8, k8, h8⟩ := c_bD hc h5 hl od
      rw [← ed] at e8
      rw [hAe]
      refine ⟨V6, top _ ?_, (kk.1.mono (fun i q => Or.inl q)).trans (k8.mono (fun i q => Or.inr q)), by rw [k8.I (by omega)]; exact kk.2, rs6.w r5' k8 (fun i a b => by omega), (fun e y => by cases y), fun q' _ => h8⟩
      rw [if_neg (fun y => z (em.mp y)), if_pos rfl]
      unfold F_X6_readDuty_J59
      exact E_bd (k6_fine r5'.2) (E_gd (by decide) (E_if (fun y => absurd y (by decide)) (fun _ => E_bd e8 rfl)))
end

section
variable {X : mX} {n z : Nat} {G : mG} {V : mV} {Q : Nat → Nat → mG → mV → Option Value → Prop}
def isM (G : mG) (m : Nat) : Prop := G.1 m = .inl 4 ∧ G.2.1 m 1 = .ref (m + 1) ∧ isR G (m + 1) 10 ∧ G.2.1 m 2 = .ref (m + 3) ∧ isR G (m + 3) 10 ∧ G.2.1 m 3 = .ref (m + 5) ∧ isR G (m + 5) 100 ∧ G.2.1 m 4 = .ref (m + 7) ∧ isR G (m + 7) 160
def szM (V : mV) (m : Nat) : Prop := szR V (m + 1) 10 ∧ szR V (m + 3) 10 ∧ szR V (m + 5) 100 ∧ szR V (m + 7) 160
theorem gI_sI_ne {V : mV} {i k a b : Nat} {x : Int} (h : a ≠ i ∨ b ≠ k) : gI (sI V i k x) a b = gI V a b := by
  rw [gI_sI, if_neg]; rintro ⟨p, q⟩; rcases h with h | h; exact h p; exact h q
theorem gI_sI_eq {V : mV} {i k a b : Nat} {x : Int} (h : a = i ∧ b = k) : gI (sI V i k x) a b = x := by rw [gI_sI, if_pos h]
theorem gA_sA_ne {V : mV} {i k a b : Nat} {x : Int} (h : a ≠ i ∨ b ≠ k) : gA (sA V i k x) a b = gA V a b := by
  rw [gA_sA, if_neg]; rintro ⟨p, q⟩; rcases h with h | h; exact h p; exact h q
theorem gA_sA_eq {V : mV} {i k a b : Nat} {x : Int} (h : a = i ∧ b = k) : gA (sA V i k x) a b = x := by rw [gA_sA, if_pos h]
theorem gA_sF_ne {V : mV} {i a b : Nat} {g : Nat → Int} (h : a ≠ i) : gA (sF V i g) a b = gA V a b := by rw [gA_sF, if_neg h]
theorem gA_sF_eq {V : mV} {i a b : Nat} {g : Nat → Int} (h : a = i) : gA (sF V i g) a b = g b := by rw [gA_sF, if_pos h]
theorem gI_rcopy {V : mV} {r c p a b : Nat} : gI (rcopy V r c p) a b = if a = r ∧ b = 1 then min (gI V p 1) c else gI V a b := rfl
theorem gI_rcopy_ne {V : mV} {r c p a b : Nat} (h : a ≠ r ∨ b ≠ 1) : gI (rcopy V r c p) a b = gI V a b := gI_sI_ne h
theorem gI_rfill {V : mV} {r c a b : Nat} {k v : Int} : gI (rfill V r c k v) a b = if a = r ∧ b = 1 then min (max k 0) c else gI V a b := rfl
theorem gI_rfill_ne {V : mV} {r c a b : Nat} {k v : Int} (h : a ≠ r ∨ b ≠ 1) : gI (rfill V r c k v) a b = gI V a b := gI_sI_ne h
theorem gI_rset {V : mV} {r : Nat} {m : Int} {f : Nat → Int} : gI (rset V r m f) = gI V := rfl
theorem gI_rput {V : mV} {r : Nat} {k v : Int} : gI (rput V r k v) = gI V := by unfold rput; split <;> rfl
theorem gA_rset {V : mV} {r : Nat} {m : Int} {f : Nat → Int} {a b : Nat} : gA (rset V r m f) a b = if a = r + 1 then (if (b : Int) < m then f b else gA V a b) else gA V a b := by
  unfold rset; rw [gA_sF]; split
  · next h => subst h; rfl
  · rfl
theorem gA_rcopy {V : mV} {r c p a b : Nat} : gA (rcopy V r c p) a b = if a = r + 1 then (if (b : Int) < min (gI V p 1) c then gA V (p + 1) b else gA V a b) else gA V a b := by
  unfold rcopy; rw [gA_rset]; rfl
theorem gA_rfill {V : mV} {r c a b : Nat} {k v : Int} : gA (rfill V r c k v) a b = if a = r + 1 then (if (b : Int) < min (max k 0) c then v else gA V a b) else gA V a b := by
  unfold rfill; rw [gA_rset]; rfl
theorem gA_rput {V : mV} {r a b : Nat} {k v : Int} : gA (rput V r k v) a b = if a = r + 1 ∧ (b : Int) = k ∧ k < gI V r 1 then v else gA V a b := by
  unfold rput
  split
  · rw [gA_sA]; split
    · rw [if_pos ⟨by omega, by omega, by omega⟩]
    · rw [if_neg (by omega)]
  · rw [if_neg (by omega)]
def mcopy (V : mV) (m p : Nat) : mV :=
  let V1 := sI V m 0 (gI V p 0)
  let V2 := rcopy V1 (m + 1) 10 (p + 1)
  let V3 := rcopy V2 (m + 3) 10 (p + 3)
  let V4 := rcopy V3 (m + 5) 100 (p + 5)
  let V5 := rcopy V4 (m + 7) 160 (p + 7)
  sI V5 m 5 (gI V5 p 5)
def mhome (V : mV) (m : Nat) (k : Int) : mV := rset (sI V (m + 1) 1 k) (m + 1) k (fun j => (j : Int))
def mkeep (V : mV) (m : Nat) (which life who : Int) : mV :=
  let t := (gI V m 5).tmod 40 * 4
  let V1 := rput V (m + 7) t (gI V m 0)
  let V2 := rput V1 (m + 7) (t + 1) which
  let V3 := rput V2 (m + 7) (t + 2) life
  let V4 := rput V3 (m + 7) (t + 3) who
  sI V4 m 5 (gI V4 m 5 + 1)
theorem lX4_goHome {m : Nat} {k : Int} (hM : isM G m) (hk : 0 ≤ k ∧ k ≤ 10) : ∀ (w : Nat) (p : Int) (V : mV), 0 ≤ p → p + w = k → gI V (m + 1) 1 = k → Q n z G (sF V (m + 1 + 1) (fun j => if p ≤ (j : Int) ∧ (j : Int) < k then (j : Int) else gA V (m + 1 + 1) j)) none → T X 2 43 11 [some (.ref m), some (.int (iI k)), some (.int (iI p))] [] n z G V Q := by
  obtain ⟨ho, hf1, hr1, hf2, hr2, hf3, hr3, hf4, hr4⟩ := id hM
  have ho1 := hr1.1
  have ho2 := hr2.1
  have ho3 := hr3.1
  have ho4 := hr4.1
  intro w
  induction w with
  | zero =>
    intro p V h0 hw hsz hq
    refine t_l fX4_goHome_11 rfl rfl rfl rfl ?_
    refine t_l fX4_goHome_12 rfl rfl rfl rfl ?_
    refine k9_ic_ge fX4_goHome_13 rfl ⟨by omega, by omega⟩ ⟨by omega, by omega⟩ (fun h1 => ?_) (fun h1 => ?_)
    · refine t_ret fX4_goHome_31 rX4_goHome ?_
      rw [sF_id (fun b => if_neg (by omega))] at hq
      exact hq
    · exfalso; omega
  | succ w ih =>
    intro p V h0 hw hsz hq
    refine t_l fX4_goHome_11 rfl rfl rfl rfl ?_
    refine t_l fX4_goHome_12 rfl rfl rfl rfl ?_
    refine k9_ic_ge fX4_goHome_13 rfl ⟨by omega, by omega⟩ ⟨by omega, by omega⟩ (fun h1 => ?_) (fun h1 => ?_)
    · refine t_ret fX4_goHome_31 rX4_goHome ?_
      exfalso; omega
    · refine t_l fX4_goHome_16 rfl rfl rfl rfl ?_
      refine k9_gr fX4_goHome_17 (by assumption) kg_4_1 (by assumption) ?_
      refine t_l fX4_goHome_20 rfl rfl rfl rfl ?_
      refine t_l fX4_goHome_21 rfl rfl rfl rfl ?_
      refine kcX7_put fX4_goHome_22 ho1 rfl (eX7_put (k := p) hr1 ⟨by omega, by omega⟩ ⟨by omega, by omega⟩) (by decide) ?_
      rw [show rput V (m + 1) p p = sA V (m + 1 + 1) p.toNat p by unfold rput; rw [if_pos ⟨by omega, by omega⟩]]
      refine k9_iinc fX4_goHome_25 rfl (Nat.le_of_ble_eq_true rfl) rfl ?_
      refine k9_goto fX4_goHome_28 rfl ?_
      refine ih (p + 1) (sA V (m + 1 + 1) p.toNat p) (by omega) (by omega) (by rw [gI_sA]; omega) ?_
      rw [show sF (sA V (m + 1 + 1) p.toNat p) (m + 1 + 1) (fun j => if p + 1 ≤ (j : Int) ∧ (j : Int) < k then (j : Int) else gA (sA V (m + 1 + 1) p.toNat p) (m + 1 + 1) j) = sF V (m + 1 + 1) (fun j => if p ≤ (j : Int) ∧ (j : Int) < k then (j : Int) else gA V (m + 1 + 1) j) by
        rw [sF_sA]; apply sF_cg; intro b; simp only [gA_sA, true_and]
        (repeat' split) <;> first | rfl | omega]
      exact hq

theorem eX4_goHome {m : Nat} {k : Int} (hM : isM G m) (hk : 0 ≤ k ∧ k ≤ 10) : Rn X 2 43 [.ref m, .int (iI k)] n z G V n z (G) (mhome V m k) (none) := by
  refine T.toR (L := [some (.ref m), some (.int (iI k)), none]) rfl ?_
  obtain ⟨ho, hf1, hr1, hf2, hr2, hf3, hr3, hf4, hr4⟩ := id hM
  have ho1 := hr1.1
  have ho2 := hr2.1
  have ho3 := hr3.1
  have ho4 := hr4.1
  refine t_l fX4_goHome_0 rfl rfl rfl rfl ?_
  refine k9_gr fX4_goHome_1 (by assumption) kg_4_1 (by assumption) ?_
  refine t_l fX4_goHome_4 rfl rfl rfl rfl ?_
  refine t_s fX4_goHome_5 rfl rfl rfl ?_
  refine kcX7_fill fX4_goHome_6 (by assumption) rfl (eX7_fill (by assumption) ⟨by omega, by omega⟩) (by decide) ?_
  refine t_s fX4_goHome_9 rfl rfl rfl ?_
  refine t_l fX4_goHome_10 rfl rfl rfl rfl ?_
  refine lX4_goHome hM hk k.toNat 0 _ (by omega) (by omega) (by rw [gI_rfill, if_pos ⟨rfl, rfl⟩]; omega) ⟨rfl, rfl, rfl, ?_, rfl⟩
  have e : min (max k 0) ((10 : Nat) : Int) = k := by omega
  unfold mhome rfill rset
  rw [e, sF_sF]; apply sF_cg; intro b; rw [gA_sF, if_pos rfl]
  (repeat' split) <;> first | rfl | (exfalso; omega)

theorem eX4_copy {m p : Nat} (hM : isM G m) (hP : isM G p) (hs : szM V p) (hd : p + 9 ≤ m ∨ m + 9 ≤ p) : Rn X 2 44 [.ref m, .ref p] n z G V n z (G) (mcopy V m p) (none) := by
  refine T.toR (L := [some (.ref m), some (.ref p)]) rfl ?_
  obtain ⟨ho, hf1, hr1, hf2, hr2, hf3, hr3, hf4, hr4⟩ := id hM
  have ho1 := hr1.1
  have ho2 := hr2.1
  have ho3 := hr3.1
  have ho4 := hr4.1
  obtain ⟨hpo, hg1, hp1, hg2, hp2, hg3, hp3, hg4, hp4⟩ := id hP
  obtain ⟨hs1, hs2, hs3, hs4⟩ := id hs
  refine t_l fX4_copy_0 rfl rfl rfl rfl ?_
  refine t_l fX4_copy_1 rfl rfl rfl rfl ?_
  refine k9_gi fX4_copy_2 (by assumption) kg_4_0 ?_
  refine k9_pi fX4_copy_5 (by assumption) kp_4_0 ?_
  refine t_l fX4_copy_8 rfl rfl rfl rfl ?_
  refine k9_gr fX4_copy_9 (by assumption) kg_4_1 (by assumption) ?_
  refine t_l fX4_copy_12 rfl rfl rfl rfl ?_
  refine k9_gr fX4_copy_13 (by assumption) kg_4_1 (by assumption) ?_
  refine kcX7_copy fX4_copy_16 ho1 rfl rfl (eX7_copy hr1 hp1 (by omega) (by simp (disch := omega) only [szR, gI_rcopy_ne, gI_sI_ne]; exact hs1)) (by decide) ?_
  refine t_l fX4_copy_19 rfl rfl rfl rfl ?_
  refine k9_gr fX4_copy_20 (by assumption) kg_4_2 (by assumption) ?_
  refine t_l fX4_copy_23 rfl rfl rfl rfl ?_
  refine k9_gr fX4_copy_24 (by assumption) kg_4_2 (by assumption) ?_
  refine kcX7_copy fX4_copy_27 ho2 rfl rfl (eX7_copy hr2 hp2 (by omega) (by simp (disch := omega) only [szR, gI_rcopy_ne, gI_sI_ne]; exact hs2)) (by decide) ?_
  refine t_l fX4_copy_30 rfl rfl rfl rfl ?_
  refine k9_gr fX4_copy_31 (by assumption) kg_4_3 (by assumption) ?_
  refine t_l fX4_copy_34 rfl rfl rfl rfl ?_
  refine k9_gr fX4_copy_35 (by assumption) kg_4_3 (by assumption) ?_
  refine kcX7_copy fX4_copy_38 ho3 rfl rfl (eX7_copy hr3 hp3 (by omega) (by simp (disch := omega) only [szR, gI_rcopy_ne, gI_sI_ne]; exact hs3)) (by decide) ?_
  refine t_l fX4_copy_41 rfl rfl rfl rfl ?_
  refine k9_gr fX4_copy_42 (by assumption) kg_4_4 (by assumption) ?_
  refine t_l fX4_copy_45 rfl rfl rfl rfl ?_
  refine k9_gr fX4_copy_46 (by assumption) kg_4_4 (by assumption) ?_
  refine kcX7_copy fX4_copy_49 ho4 rfl rfl (eX7_copy hr4 hp4 (by omega) (by simp (disch := omega) only [szR, gI_rcopy_ne, gI_sI_ne]; exact hs4)) (by decide) ?_
  refine t_l fX4_copy_52 rfl rfl rfl rfl ?_
  refine t_l fX4_copy_53 rfl rfl rfl rfl ?_
  refine k9_gi fX4_copy_54 (by assumption) kg_4_5 ?_
  refine k9_pi fX4_copy_57 (by assumption) kp_4_5 ?_
  refine t_ret fX4_copy_60 rX4_copy ?_
  exact ⟨rfl, rfl, rfl, rfl, rfl⟩

theorem eX4_pointsOf {m : Nat} {p l : Int} (hM : isM G m) (hs : szR V (m + 5) 100) (hp : -1000 ≤ p ∧ p ≤ 1000) (hl : -1000 ≤ l ∧ l ≤ 1000) : Rn X 1 45 [.ref m, .int (iI p), .int (iI l)] n z G V n z (G) (V) (some (.int (iI (rget V (m + 5) (p * 10 + l))))) := by
  refine T.toR (L := [some (.ref m), some (.int (iI p)), some (.int (iI l))]) rfl ?_
  obtain ⟨ho, hf1, hr1, hf2, hr2, hf3, hr3, hf4, hr4⟩ := id hM
  have ho1 := hr1.1
  have ho2 := hr2.1
  have ho3 := hr3.1
  have ho4 := hr4.1
  refine t_l fX4_pointsOf_0 rfl rfl rfl rfl ?_
  refine k9_gr fX4_pointsOf_1 (by assumption) kg_4_3 (by assumption) ?_
  refine t_l fX4_pointsOf_4 rfl rfl rfl rfl ?_
  refine t_s fX4_pointsOf_5 rfl rfl rfl ?_
  refine k9_imul fX4_pointsOf_7 ?_
  refine t_l fX4_pointsOf_8 rfl rfl rfl rfl ?_
  refine k9_iadd fX4_pointsOf_9 ?_
  refine kcX7_get fX4_pointsOf_10 (by assumption) rfl (eX7_get (by assumption) (by assumption) ⟨by omega, by omega⟩) (by decide) ?_
  refine t_ret fX4_pointsOf_13 rX4_pointsOf ?_
  exact ⟨rfl, rfl, rfl, rfl, rfl⟩

theorem eX4_setPoints {m : Nat} {p l v : Int} (hM : isM G m) (hs : szR V (m + 5) 100) (hp : -1000 ≤ p ∧ p ≤ 1000) (hl : -1000 ≤ l ∧ l ≤ 1000) (hv : rg v) : Rn X 1 46 [.ref m, .int (iI p), .int (iI l), .int (iI v)] n z G V n z (G) (rput V (m + 5) (p * 10 + l) (max 0 (min 99 v))) (none) := by
  refine T.toR (L := [some (.ref m), some (.int (iI p)), some (.int (iI l)), some (.int (iI v))]) rfl ?_
  obtain ⟨ho, hf1, hr1, hf2, hr2, hf3, hr3, hf4, hr4⟩ := id hM
  have ho1 := hr1.1
  have ho2 := hr2.1
  have ho3 := hr3.1
  have ho4 := hr4.1
  refine t_l fX4_setPoints_0 rfl rfl rfl rfl ?_
  refine k9_gr fX4_setPoints_1 (by assumption) kg_4_3 (by assumption) ?_
  refine t_l fX4_setPoints_4 rfl rfl rfl rfl ?_
  refine t_s fX4_setPoints_5 rfl rfl rfl ?_
  refine k9_imul fX4_setPoints_7 ?_
  refine t_l fX4_setPoints_8 rfl rfl rfl rfl ?_
  refine k9_iadd fX4_setPoints_9 ?_
  refine t_s fX4_setPoints_10 rfl rfl rfl ?_
  refine t_s fX4_setPoints_11 rfl rfl rfl ?_
  refine t_l fX4_setPoints_13 rfl rfl rfl rfl ?_
  refine kcM_min fX4_setPoints_14 rfl (eM_min ⟨by omega, by omega⟩ ⟨by omega, by omega⟩) (by decide) ?_
  refine kcM_max fX4_setPoints_17 rfl (eM_max ⟨by omega, by omega⟩ ⟨by omega, by omega⟩) (by decide) ?_
  refine kcX7_put fX4_setPoints_20 (by assumption) rfl (eX7_put (by assumption) (by assumption) ⟨by omega, by omega⟩) (by decide) ?_
  refine t_ret fX4_setPoints_23 rX4_setPoints ?_
  exact ⟨rfl, rfl, rfl, rfl, rfl⟩

theorem eX4_keep {m : Nat} {a b c : Int} (hM : isM G m) (hs4 : szR V (m + 7) 160) (hk : 0 ≤ gI V m 5 ∧ gI V m 5 ≤ 100000000) (ha : rg a) (hb : rg b) (hc : rg c) : Rn X 1 47 [.ref m, .int (iI a), .int (iI b), .int (iI c)] n z G V n z (G) (mkeep V m a b c) (none) := by
  refine T.toR (L := [some (.ref m), some (.int (iI a)), some (.int (iI b)), some (.int (iI c)), none]) rfl ?_
  obtain ⟨ho, hf1, hr1, hf2, hr2, hf3, hr3, hf4, hr4⟩ := id hM
  have ho1 := hr1.1
  have ho2 := hr2.1
  have ho3 := hr3.1
  have ho4 := hr4.1
  have ht : 0 ≤ (gI V m 5).tmod 40 ∧ (gI V m 5).tmod 40 ≤ 39 := by
    rw [Int.tmod_eq_emod_of_nonneg hk.1]; omega
  refine t_l fX4_keep_0 rfl rfl rfl rfl ?_
  refine k9_gi fX4_keep_1 (by assumption) kg_4_5 ?_
  refine t_s fX4_keep_4 rfl rfl rfl ?_
  refine k9_irem fX4_keep_6 ⟨by omega, by omega⟩ ⟨by omega, by omega⟩ (by omega) ?_
  refine t_s fX4_keep_7 rfl rfl rfl ?_
  refine k9_imul fX4_keep_8 ?_
  refine t_l fX4_keep_9 rfl rfl rfl rfl ?_
  refine t_l fX4_keep_11 rfl rfl rfl rfl ?_
  refine k9_gr fX4_keep_12 (by assumption) kg_4_4 (by assumption) ?_
  refine t_l fX4_keep_15 rfl rfl rfl rfl ?_
  refine t_l fX4_keep_17 rfl rfl rfl rfl ?_
  refine k9_gi fX4_keep_18 (by assumption) kg_4_0 ?_
  refine kcX7_put fX4_keep_21 ho4 rfl (eX7_put hr4 (by simp only [szR, gI_rput] at hs4 ⊢; exact hs4) ⟨by omega, by omega⟩) (by decide) ?_
  refine t_l fX4_keep_24 rfl rfl rfl rfl ?_
  refine k9_gr fX4_keep_25 (by assumption) kg_4_4 (by assumption) ?_
  refine t_l fX4_keep_28 rfl rfl rfl rfl ?_
  refine t_s fX4_keep_30 rfl rfl rfl ?_
  refine k9_iadd fX4_keep_31 ?_
  refine t_l fX4_keep_32 rfl rfl rfl rfl ?_
  refine kcX7_put fX4_keep_33 ho4 rfl (eX7_put hr4 (by simp only [szR, gI_rput] at hs4 ⊢; exact hs4) ⟨by omega, by omega⟩) (by decide) ?_
  refine t_l fX4_keep_36 rfl rfl rfl rfl ?_
  refine k9_gr fX4_keep_37 (by assumption) kg_4_4 (by assumption) ?_
  refine t_l fX4_keep_40 rfl rfl rfl rfl ?_
  refine t_s fX4_keep_42 rfl rfl rfl ?_
  refine k9_iadd fX4_keep_43 ?_
  refine t_l fX4_keep_44 rfl rfl rfl rfl ?_
  refine kcX7_put fX4_keep_45 ho4 rfl (eX7_put hr4 (by simp only [szR, gI_rput] at hs4 ⊢; exact hs4) ⟨by omega, by omega⟩) (by decide) ?_
  refine t_l fX4_keep_48 rfl rfl rfl rfl ?_
  refine k9_gr fX4_keep_49 (by assumption) kg_4_4 (by assumption) ?_
  refine t_l fX4_keep_52 rfl rfl rfl rfl ?_
  refine t_s fX4_keep_54 rfl rfl rfl ?_
  refine k9_iadd fX4_keep_55 ?_
  refine t_l fX4_keep_56 rfl rfl rfl rfl ?_
  refine kcX7_put fX4_keep_57 ho4 rfl (eX7_put hr4 (by simp only [szR, gI_rput] at hs4 ⊢; exact hs4) ⟨by omega, by omega⟩) (by decide) ?_
  refine t_l fX4_keep_60 rfl rfl rfl rfl ?_
  refine t_s fX4_keep_61 rfl rfl rfl ?_
  refine k9_gi fX4_keep_62 (by assumption) kg_4_5 ?_
  refine t_s fX4_keep_65 rfl rfl rfl ?_
  refine k9_iadd fX4_keep_66 ?_
  refine k9_pi fX4_keep_67 (by assumption) kp_4_5 ?_
  refine t_ret fX4_keep_70 rX4_keep ?_
  exact ⟨rfl, rfl, rfl, rfl, rfl⟩

theorem eX4_keptCount {m : Nat} (hM : isM G m) (hk : rg (gI V m 5)) : Rn X 1 48 [.ref m] n z G V n z (G) (V) (some (.int (iI (min (gI V m 5) 40)))) := by
  refine T.toR (L := [some (.ref m)]) rfl ?_
  obtain ⟨ho, hf1, hr1, hf2, hr2, hf3, hr3, hf4, hr4⟩ := id hM
  have ho1 := hr1.1
  have ho2 := hr2.1
  have ho3 := hr3.1
  have ho4 := hr4.1
  refine t_l fX4_keptCount_0 rfl rfl rfl rfl ?_
  refine k9_gi fX4_keptCount_1 (by assumption) kg_4_5 ?_
  refine t_s fX4_keptCount_4 rfl rfl rfl ?_
  refine kcM_min fX4_keptCount_6 rfl (eM_min ⟨by omega, by omega⟩ ⟨by omega, by omega⟩) (by decide) ?_
  refine t_ret fX4_keptCount_9 rX4_keptCount ?_
  exact ⟨rfl, rfl, rfl, rfl, rfl⟩

theorem eX4_keptPart {m : Nat} {k w : Int} (hM : isM G m) (hs4 : szR V (m + 7) 160) (hk5 : 0 ≤ gI V m 5 ∧ gI V m 5 ≤ 100000000) (hk : rg k) (hw : rg w) : Rn X 2 49 [.ref m, .int (iI k), .int (iI w)] n z G V n z (G) (V) (some (.int (iI (if 0 ≤ k ∧ k < min (gI V m 5) 40 ∧ 0 ≤ w ∧ w < 4 then rget V (m + 7) ((gI V m 5 - min (gI V m 5) 40 + k).tmod 40 * 4 + w) else -1)))) := by
  refine T.toR (L := [some (.ref m), some (.int (iI k)), some (.int (iI w)), none]) rfl ?_
  obtain ⟨ho, hf1, hr1, hf2, hr2, hf3, hr3, hf4, hr4⟩ := id hM
  have ho1 := hr1.1
  have ho2 := hr2.1
  have ho3 := hr3.1
  have ho4 := hr4.1
  refine t_l fX4_keptPart_0 rfl rfl rfl rfl ?_
  refine k9_if_lt fX4_keptPart_1 rfl ⟨by omega, by omega⟩ (fun h1 => ?_) (fun h1 => ?_)
  · refine t_s fX4_keptPart_21 rfl rfl rfl ?_
    refine t_ret fX4_keptPart_22 rX4_keptPart ?_
    exact ⟨rfl, rfl, rfl, rfl, ans (by first | (rw [if_pos ⟨by omega, by omega, by omega, by omega⟩]; done) | (rw [if_neg (by omega)]; done))⟩
  · refine t_l fX4_keptPart_4 rfl rfl rfl rfl ?_
    refine t_l fX4_keptPart_5 rfl rfl rfl rfl ?_
    refine kcX4_keptCount fX4_keptPart_6 (by assumption) rfl (eX4_keptCount (by assumption) ⟨by omega, by omega⟩) (by decide) ?_
    refine k9_ic_ge fX4_keptPart_9 rfl ⟨by omega, by omega⟩ ⟨by omega, by omega⟩ (fun h2 => ?_) (fun h2 => ?_)
    · refine t_s fX4_keptPart_21 rfl rfl rfl ?_
      refine t_ret fX4_keptPart_22 rX4_keptPart ?_
      exact ⟨rfl, rfl, rfl, rfl, ans (by first | (rw [if_pos ⟨by omega, by omega, by omega, by omega⟩]; done) | (rw [if_neg (by omega)]; done))⟩
    · refine t_l fX4_keptPart_12 rfl rfl rfl rfl ?_
      refine k9_if_lt fX4_keptPart_13 rfl ⟨by omega, by omega⟩ (fun h3 => ?_) (fun h3 => ?_)
      · refine t_s fX4_keptPart_21 rfl rfl rfl ?_
        refine t_ret fX4_keptPart_22 rX4_keptPart ?_
        exact ⟨rfl, rfl, rfl, rfl, ans (by first | (rw [if_pos ⟨by omega, by omega, by omega, by omega⟩]; done) | (rw [if_neg (by omega)]; done))⟩
      · refine t_l fX4_keptPart_16 rfl rfl rfl rfl ?_
        refine t_s fX4_keptPart_17 rfl rfl rfl ?_
        refine k9_ic_lt fX4_keptPart_18 rfl ⟨by omega, by omega⟩ ⟨by omega, by omega⟩ (fun h4 => ?_) (fun h4 => ?_)
        · refine t_l fX4_keptPart_23 rfl rfl rfl rfl ?_
          refine k9_gi fX4_keptPart_24 (by assumption) kg_4_5 ?_
          refine t_l fX4_keptPart_27 rfl rfl rfl rfl ?_
          refine kcX4_keptCount fX4_keptPart_28 (by assumption) rfl (eX4_keptCount (by assumption) ⟨by omega, by omega⟩) (by decide) ?_
          refine k9_isub fX4_keptPart_31 ?_
          refine t_l fX4_keptPart_32 rfl rfl rfl rfl ?_
          refine t_l fX4_keptPart_33 rfl rfl rfl rfl ?_
          refine k9_gr fX4_keptPart_34 (by assumption) kg_4_4 (by assumption) ?_
          refine t_l fX4_keptPart_37 rfl rfl rfl rfl ?_
          refine t_l fX4_keptPart_38 rfl rfl rfl rfl ?_
          refine k9_iadd fX4_keptPart_39 ?_
          refine t_s fX4_keptPart_40 rfl rfl rfl ?_
          have ht : 0 ≤ (gI V m 5 - min (gI V m 5) 40 + k).tmod 40 ∧ (gI V m 5 - min (gI V m 5) 40 + k).tmod 40 ≤ 39 := by
            rw [Int.tmod_eq_emod_of_nonneg (by omega)]; omega
          refine k9_irem fX4_keptPart_42 ⟨by omega, by omega⟩ ⟨by omega, by omega⟩ (by omega) ?_
          refine t_s fX4_keptPart_43 rfl rfl rfl ?_
          refine k9_imul fX4_keptPart_44 ?_
          refine t_l fX4_keptPart_45 rfl rfl rfl rfl ?_
          refine k9_iadd fX4_keptPart_46 ?_
          refine kcX7_get fX4_keptPart_47 (by assumption) rfl (eX7_get (by assumption) (by assumption) ⟨by omega, by omega⟩) (by decide) ?_
          refine t_ret fX4_keptPart_50 rX4_keptPart ?_
          exact ⟨rfl, rfl, rfl, rfl, ans (by first | (rw [if_pos ⟨by omega, by omega, by omega, by omega⟩]; done) | (rw [if_neg (by omega)]; done))⟩
        · refine t_s fX4_keptPart_21 rfl rfl rfl ?_
          refine t_ret fX4_keptPart_22 rX4_keptPart ?_
          exact ⟨rfl, rfl, rfl, rfl, ans (by first | (rw [if_pos ⟨by omega, by omega, by omega, by omega⟩]; done) | (rw [if_neg (by omega)]; done))⟩

end

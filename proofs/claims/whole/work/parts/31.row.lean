section
variable {X : mX} {n z : Nat} {G : mG} {V : mV} {Q : Nat → Nat → mG → mV → Option Value → Prop}
theorem eM_max {a b : Int} (ha : rg a) (hb : rg b) : Rn X 0 289 [.int (iI a), .int (iI b)] n z G V n z (G) (V) (some (.int (iI (max a b)))) := by
  refine T.toR (L := [some (.int (iI a)), some (.int (iI b))]) rfl ?_
  refine t_l fM_max_0 rfl rfl rfl rfl ?_
  refine t_l fM_max_1 rfl rfl rfl rfl ?_
  refine k9_ic_lt fM_max_2 rfl ⟨by omega, by omega⟩ ⟨by omega, by omega⟩ (fun h1 => ?_) (fun h1 => ?_)
  · refine t_l fM_max_9 rfl rfl rfl rfl ?_
    refine t_ret fM_max_10 rM_max ?_
    exact ⟨rfl, rfl, rfl, rfl, ans (by first | rfl | omega | (split <;> omega))⟩
  · refine t_l fM_max_5 rfl rfl rfl rfl ?_
    refine k9_goto fM_max_6 rfl ?_
    refine t_ret fM_max_10 rM_max ?_
    exact ⟨rfl, rfl, rfl, rfl, ans (by first | rfl | omega | (split <;> omega))⟩

theorem eM_min {a b : Int} (ha : rg a) (hb : rg b) : Rn X 0 290 [.int (iI a), .int (iI b)] n z G V n z (G) (V) (some (.int (iI (min a b)))) := by
  refine T.toR (L := [some (.int (iI a)), some (.int (iI b))]) rfl ?_
  refine t_l fM_min_0 rfl rfl rfl rfl ?_
  refine t_l fM_min_1 rfl rfl rfl rfl ?_
  refine k9_ic_gt fM_min_2 rfl ⟨by omega, by omega⟩ ⟨by omega, by omega⟩ (fun h1 => ?_) (fun h1 => ?_)
  · refine t_l fM_min_9 rfl rfl rfl rfl ?_
    refine t_ret fM_min_10 rM_min ?_
    exact ⟨rfl, rfl, rfl, rfl, ans (by first | rfl | omega | (split <;> omega))⟩
  · refine t_l fM_min_5 rfl rfl rfl rfl ?_
    refine k9_goto fM_min_6 rfl ?_
    refine t_ret fM_min_10 rM_min ?_
    exact ⟨rfl, rfl, rfl, rfl, ans (by first | rfl | omega | (split <;> omega))⟩

theorem eX7_size {r cap : Nat} (hr : isR G r cap) : Rn X 0 95 [.ref r] n z G V n z (G) (V) (some (.int (iI (gI V r 1)))) := by
  refine T.toR (L := [some (.ref r)]) rfl ?_
  obtain ⟨ho, hc, ha, hcap⟩ := hr
  refine t_l fX7_size_0 rfl rfl rfl rfl ?_
  refine k9_gi fX7_size_1 (by assumption) kg_7_1 ?_
  refine t_ret fX7_size_4 rX7_size ?_
  exact ⟨rfl, rfl, rfl, rfl, ans (by first | rfl | omega | (split <;> omega))⟩

theorem eX7_get {r cap : Nat} {k : Int} (hr : isR G r cap) (hs : szR V r cap) (hk : rg k) : Rn X 0 96 [.ref r, .int (iI k)] n z G V n z (G) (V) (some (.int (iI (rget V r k)))) := by
  refine T.toR (L := [some (.ref r), some (.int (iI k))]) rfl ?_
  obtain ⟨ho, hc, ha, hcap⟩ := hr
  obtain ⟨hs0, hs1⟩ := hs
  unfold rget
  refine t_l fX7_get_0 rfl rfl rfl rfl ?_
  refine k9_if_lt fX7_get_1 rfl ⟨by omega, by omega⟩ (fun h1 => ?_) (fun h1 => ?_)
  · refine t_s fX7_get_30 rfl rfl rfl ?_
    refine t_ret fX7_get_31 rX7_get ?_
    exact ⟨rfl, rfl, rfl, rfl, ans (by first | rfl | omega | (split <;> omega))⟩
  · refine t_l fX7_get_4 rfl rfl rfl rfl ?_
    refine t_l fX7_get_5 rfl rfl rfl rfl ?_
    refine k9_gi fX7_get_6 (by assumption) kg_7_1 ?_
    refine k9_ic_ge fX7_get_9 rfl ⟨by omega, by omega⟩ ⟨by omega, by omega⟩ (fun h2 => ?_) (fun h2 => ?_)
    · refine t_s fX7_get_30 rfl rfl rfl ?_
      refine t_ret fX7_get_31 rX7_get ?_
      exact ⟨rfl, rfl, rfl, rfl, ans (by first | rfl | omega | (split <;> omega))⟩
    · refine t_l fX7_get_12 rfl rfl rfl rfl ?_
      refine t_l fX7_get_13 rfl rfl rfl rfl ?_
      refine k9_gr fX7_get_14 (by assumption) kg_7_0 (by assumption) ?_
      refine k9_len fX7_get_17 (by assumption) (by decide) ?_
      refine k9_ic_ge fX7_get_18 rfl ⟨by omega, by omega⟩ ⟨by omega, by omega⟩ (fun h3 => ?_) (fun h3 => ?_)
      · refine t_s fX7_get_30 rfl rfl rfl ?_
        refine t_ret fX7_get_31 rX7_get ?_
        exact ⟨rfl, rfl, rfl, rfl, ans (by first | rfl | omega | (split <;> omega))⟩
      · refine t_l fX7_get_21 rfl rfl rfl rfl ?_
        refine k9_gr fX7_get_22 (by assumption) kg_7_0 (by assumption) ?_
        refine t_l fX7_get_25 rfl rfl rfl rfl ?_
        refine k9_ia fX7_get_26 (by assumption) (by omega) (by omega) (by omega) ?_
        refine k9_goto fX7_get_27 rfl ?_
        refine t_ret fX7_get_31 rX7_get ?_
        exact ⟨rfl, rfl, rfl, rfl, ans (by first | rfl | omega | (split <;> omega))⟩

theorem eX7_put {r cap : Nat} {k v : Int} (hr : isR G r cap) (hs : szR V r cap) (hk : rg k) : Rn X 0 97 [.ref r, .int (iI k), .int (iI v)] n z G V n z (G) (rput V r k v) (none) := by
  refine T.toR (L := [some (.ref r), some (.int (iI k)), some (.int (iI v))]) rfl ?_
  obtain ⟨ho, hc, ha, hcap⟩ := hr
  obtain ⟨hs0, hs1⟩ := hs
  unfold rput
  refine t_l fX7_put_0 rfl rfl rfl rfl ?_
  refine k9_if_lt fX7_put_1 rfl ⟨by omega, by omega⟩ (fun h1 => ?_) (fun h1 => ?_)
  · refine t_ret fX7_put_28 rX7_put ?_
    first | exact ⟨rfl, rfl, rfl, (if_pos (by omega)).symm, rfl⟩ | exact ⟨rfl, rfl, rfl, (if_neg (by omega)).symm, rfl⟩
  · refine t_l fX7_put_4 rfl rfl rfl rfl ?_
    refine t_l fX7_put_5 rfl rfl rfl rfl ?_
    refine k9_gi fX7_put_6 (by assumption) kg_7_1 ?_
    refine k9_ic_ge fX7_put_9 rfl ⟨by omega, by omega⟩ ⟨by omega, by omega⟩ (fun h2 => ?_) (fun h2 => ?_)
    · refine t_ret fX7_put_28 rX7_put ?_
      first | exact ⟨rfl, rfl, rfl, (if_pos (by omega)).symm, rfl⟩ | exact ⟨rfl, rfl, rfl, (if_neg (by omega)).symm, rfl⟩
    · refine t_l fX7_put_12 rfl rfl rfl rfl ?_
      refine t_l fX7_put_13 rfl rfl rfl rfl ?_
      refine k9_gr fX7_put_14 (by assumption) kg_7_0 (by assumption) ?_
      refine k9_len fX7_put_17 (by assumption) (by decide) ?_
      refine k9_ic_ge fX7_put_18 rfl ⟨by omega, by omega⟩ ⟨by omega, by omega⟩ (fun h3 => ?_) (fun h3 => ?_)
      · refine t_ret fX7_put_28 rX7_put ?_
        first | exact ⟨rfl, rfl, rfl, (if_pos (by omega)).symm, rfl⟩ | exact ⟨rfl, rfl, rfl, (if_neg (by omega)).symm, rfl⟩
      · refine t_l fX7_put_21 rfl rfl rfl rfl ?_
        refine k9_gr fX7_put_22 (by assumption) kg_7_0 (by assumption) ?_
        refine t_l fX7_put_25 rfl rfl rfl rfl ?_
        refine t_l fX7_put_26 rfl rfl rfl rfl ?_
        refine k9_is fX7_put_27 (by assumption) (by omega) (by omega) (by omega) ?_
        refine t_ret fX7_put_28 rX7_put ?_
        first | exact ⟨rfl, rfl, rfl, (if_pos (by omega)).symm, rfl⟩ | exact ⟨rfl, rfl, rfl, (if_neg (by omega)).symm, rfl⟩

theorem eX7_add {r cap : Nat} {v : Int} (hr : isR G r cap) (hs : szR V r cap) : Rn X 0 98 [.ref r, .int (iI v)] n z G V n z (G) (radd V r cap v) (none) := by
  refine T.toR (L := [some (.ref r), some (.int (iI v))]) rfl ?_
  obtain ⟨ho, hc, ha, hcap⟩ := hr
  obtain ⟨hs0, hs1⟩ := hs
  unfold radd
  refine t_l fX7_add_0 rfl rfl rfl rfl ?_
  refine k9_gi fX7_add_1 (by assumption) kg_7_1 ?_
  refine k9_if_lt fX7_add_4 rfl ⟨by omega, by omega⟩ (fun h1 => ?_) (fun h1 => ?_)
  · refine t_ret fX7_add_39 rX7_add ?_
    first | exact ⟨rfl, rfl, rfl, (if_pos (by omega)).symm, rfl⟩ | exact ⟨rfl, rfl, rfl, (if_neg (by omega)).symm, rfl⟩
  · refine t_l fX7_add_7 rfl rfl rfl rfl ?_
    refine k9_gi fX7_add_8 (by assumption) kg_7_1 ?_
    refine t_l fX7_add_11 rfl rfl rfl rfl ?_
    refine k9_gr fX7_add_12 (by assumption) kg_7_0 (by assumption) ?_
    refine k9_len fX7_add_15 (by assumption) (by decide) ?_
    refine k9_ic_ge fX7_add_16 rfl ⟨by omega, by omega⟩ ⟨by omega, by omega⟩ (fun h2 => ?_) (fun h2 => ?_)
    · refine t_ret fX7_add_39 rX7_add ?_
      first | exact ⟨rfl, rfl, rfl, (if_pos (by omega)).symm, rfl⟩ | exact ⟨rfl, rfl, rfl, (if_neg (by omega)).symm, rfl⟩
    · refine t_l fX7_add_19 rfl rfl rfl rfl ?_
      refine k9_gr fX7_add_20 (by assumption) kg_7_0 (by assumption) ?_
      refine t_l fX7_add_23 rfl rfl rfl rfl ?_
      refine k9_gi fX7_add_24 (by assumption) kg_7_1 ?_
      refine t_l fX7_add_27 rfl rfl rfl rfl ?_
      refine k9_is fX7_add_28 (by assumption) (by omega) (by omega) (by omega) ?_
      refine t_l fX7_add_29 rfl rfl rfl rfl ?_
      refine t_s fX7_add_30 rfl rfl rfl ?_
      refine k9_gi fX7_add_31 (by assumption) kg_7_1 ?_
      refine t_s fX7_add_34 rfl rfl rfl ?_
      refine k9_iadd fX7_add_35 ?_
      refine k9_pi fX7_add_36 (by assumption) kp_7_1 ?_
      refine t_ret fX7_add_39 rX7_add ?_
      first | exact ⟨rfl, rfl, rfl, (if_pos (by omega)).symm, rfl⟩ | exact ⟨rfl, rfl, rfl, (if_neg (by omega)).symm, rfl⟩

theorem eX7_cut {r cap : Nat} {k : Int} (hr : isR G r cap) (hs : szR V r cap) (hk : rg k) : Rn X 0 100 [.ref r, .int (iI k)] n z G V n z (G) (rcut V r k) (none) := by
  refine T.toR (L := [some (.ref r), some (.int (iI k))]) rfl ?_
  obtain ⟨ho, hc, ha, hcap⟩ := hr
  obtain ⟨hs0, hs1⟩ := hs
  unfold rcut
  refine t_l fX7_cut_0 rfl rfl rfl rfl ?_
  refine k9_if_lt fX7_cut_1 rfl ⟨by omega, by omega⟩ (fun h1 => ?_) (fun h1 => ?_)
  · refine t_ret fX7_cut_17 rX7_cut ?_
    first | exact ⟨rfl, rfl, rfl, (if_pos (by omega)).symm, rfl⟩ | exact ⟨rfl, rfl, rfl, (if_neg (by omega)).symm, rfl⟩
  · refine t_l fX7_cut_4 rfl rfl rfl rfl ?_
    refine t_l fX7_cut_5 rfl rfl rfl rfl ?_
    refine k9_gi fX7_cut_6 (by assumption) kg_7_1 ?_
    refine k9_ic_ge fX7_cut_9 rfl ⟨by omega, by omega⟩ ⟨by omega, by omega⟩ (fun h2 => ?_) (fun h2 => ?_)
    · refine t_ret fX7_cut_17 rX7_cut ?_
      first | exact ⟨rfl, rfl, rfl, (if_pos (by omega)).symm, rfl⟩ | exact ⟨rfl, rfl, rfl, (if_neg (by omega)).symm, rfl⟩
    · refine t_l fX7_cut_12 rfl rfl rfl rfl ?_
      refine t_l fX7_cut_13 rfl rfl rfl rfl ?_
      refine k9_pi fX7_cut_14 (by assumption) kp_7_1 ?_
      refine t_ret fX7_cut_17 rX7_cut ?_
      first | exact ⟨rfl, rfl, rfl, (if_pos (by omega)).symm, rfl⟩ | exact ⟨rfl, rfl, rfl, (if_neg (by omega)).symm, rfl⟩

theorem lX7_find {r cap : Nat} {v : Int} (hr : isR G r cap) (hs : szR V r cap) (hw : wV V) (hv : rg v) : ∀ (m : Nat) (k : Int), 0 ≤ k → k + m = gI V r 1 → Q n z G V (some (.int (iI (fnd (gA V (r + 1)) v k m)))) → T X 1 103 2 [some (.ref r), some (.int (iI v)), some (.int (iI k))] [] n z G V Q := by
  obtain ⟨ho, hc, ha, hcap⟩ := hr
  obtain ⟨hs0, hs1⟩ := hs
  intro m
  induction m with
  | zero =>
    intro k h0 hk hq
    refine t_l fX7_find_2 rfl rfl rfl rfl ?_
    refine t_l fX7_find_3 rfl rfl rfl rfl ?_
    refine k9_gi fX7_find_4 (by assumption) kg_7_1 ?_
    refine k9_ic_ge fX7_find_7 rfl ⟨by omega, by omega⟩ ⟨by omega, by omega⟩ (fun h1 => ?_) (fun h1 => ?_)
    · refine t_s fX7_find_27 rfl rfl rfl ?_
      refine t_ret fX7_find_28 rX7_find ?_
      exact hq
    · exfalso; omega
  | succ m ih =>
    intro k h0 hk hq
    unfold fnd at hq
    refine t_l fX7_find_2 rfl rfl rfl rfl ?_
    refine t_l fX7_find_3 rfl rfl rfl rfl ?_
    refine k9_gi fX7_find_4 (by assumption) kg_7_1 ?_
    refine k9_ic_ge fX7_find_7 rfl ⟨by omega, by omega⟩ ⟨by omega, by omega⟩ (fun h1 => ?_) (fun h1 => ?_)
    · refine t_s fX7_find_27 rfl rfl rfl ?_
      refine t_ret fX7_find_28 rX7_find ?_
      first | (exfalso; omega) | exact hq
    · refine t_l fX7_find_10 rfl rfl rfl rfl ?_
      refine t_l fX7_find_11 rfl rfl rfl rfl ?_
      refine kcX7_get fX7_find_12 ho rfl (eX7_get ⟨ho, hc, ha, hcap⟩ ⟨hs0, hs1⟩ ⟨by omega, by omega⟩) (by decide) ?_
      rw [show rget V r k = gA V (r + 1) k.toNat by unfold rget; rw [if_pos ⟨by omega, by omega⟩]]
      refine t_l fX7_find_15 rfl rfl rfl rfl ?_
      have hg1 := hw.2 (r + 1) k.toNat
      refine k9_ic_ne fX7_find_16 rfl ⟨by omega, by omega⟩ ⟨by omega, by omega⟩ (fun h2 => ?_) (fun h2 => ?_)
      · rw [if_neg h2] at hq
        refine k9_iinc fX7_find_21 rfl (Nat.le_of_ble_eq_true rfl) rfl ?_
        refine k9_goto fX7_find_24 rfl ?_
        exact ih (k + 1) (by omega) (by omega) hq
      · rw [if_pos (Classical.not_not.mp h2)] at hq
        refine t_l fX7_find_19 rfl rfl rfl rfl ?_
        refine t_ret fX7_find_20 rX7_find ?_
        first | (exfalso; omega) | exact hq

theorem eX7_find {r cap : Nat} {v : Int} (hr : isR G r cap) (hs : szR V r cap) (hw : wV V) (hv : rg v) : Rn X 1 103 [.ref r, .int (iI v)] n z G V n z (G) (V) (some (.int (iI (fnd (gA V (r + 1)) v 0 (gI V r 1).toNat)))) := by
  refine T.toR (L := [some (.ref r), some (.int (iI v)), none]) rfl ?_
  refine t_s fX7_find_0 rfl rfl rfl ?_
  refine t_l fX7_find_1 rfl rfl rfl rfl ?_
  obtain ⟨hs0, hs1⟩ := id hs
  exact lX7_find hr hs hw hv (gI V r 1).toNat 0 (by omega) (by omega) ⟨rfl, rfl, rfl, rfl, rfl⟩

theorem lX7_count {r cap : Nat} {v : Int} (hr : isR G r cap) (hs : szR V r cap) (hw : wV V) (hv : rg v) : ∀ (m : Nat) (k c : Int), 0 ≤ k → k + m = gI V r 1 → 0 ≤ c → c ≤ k → Q n z G V (some (.int (iI (c + cnt (gA V (r + 1)) v k m)))) → T X 1 104 4 [some (.ref r), some (.int (iI v)), some (.int (iI c)), some (.int (iI k))] [] n z G V Q := by
  obtain ⟨ho, hc, ha, hcap⟩ := hr
  obtain ⟨hs0, hs1⟩ := hs
  intro m
  induction m with
  | zero =>
    intro k c h0 hk hc0 hck hq
    refine t_l fX7_count_4 rfl rfl rfl rfl ?_
    refine t_l fX7_count_5 rfl rfl rfl rfl ?_
    refine k9_gi fX7_count_6 (by assumption) kg_7_1 ?_
    refine k9_ic_ge fX7_count_9 rfl ⟨by omega, by omega⟩ ⟨by omega, by omega⟩ (fun h1 => ?_) (fun h1 => ?_)
    · refine t_l fX7_count_30 rfl rfl rfl rfl ?_
      refine t_ret fX7_count_31 rX7_count ?_
      rw [show c + cnt (gA V (r + 1)) v k 0 = c from Int.add_zero c] at hq
      exact hq
    · exfalso; omega
  | succ m ih =>
    intro k c h0 hk hc0 hck hq
    unfold cnt at hq
    refine t_l fX7_count_4 rfl rfl rfl rfl ?_
    refine t_l fX7_count_5 rfl rfl rfl rfl ?_
    refine k9_gi fX7_count_6 (by assumption) kg_7_1 ?_
    refine k9_ic_ge fX7_count_9 rfl ⟨by omega, by omega⟩ ⟨by omega, by omega⟩ (fun h1 => ?_) (fun h1 => ?_)
    · refine t_l fX7_count_30 rfl rfl rfl rfl ?_
      refine t_ret fX7_count_31 rX7_count ?_
      exfalso; omega
    · refine t_l fX7_count_12 rfl rfl rfl rfl ?_
      refine t_l fX7_count_13 rfl rfl rfl rfl ?_
      refine kcX7_get fX7_count_14 ho rfl (eX7_get ⟨ho, hc, ha, hcap⟩ ⟨hs0, hs1⟩ ⟨by omega, by omega⟩) (by decide) ?_
      rw [show rget V r k = gA V (r + 1) k.toNat by unfold rget; rw [if_pos ⟨by omega, by omega⟩]]
      refine t_l fX7_count_17 rfl rfl rfl rfl ?_
      have hg1 := hw.2 (r + 1) k.toNat
      refine k9_ic_ne fX7_count_18 rfl ⟨by omega, by omega⟩ ⟨by omega, by omega⟩ (fun h2 => ?_) (fun h2 => ?_)
      · first | (rw [if_neg h2, Int.zero_add] at hq) | skip
        refine k9_iinc fX7_count_24 rfl (Nat.le_of_ble_eq_true rfl) rfl ?_
        refine k9_goto fX7_count_27 rfl ?_
        exact ih (k + 1) _ (by omega) (by omega) (by omega) (by omega) hq
      · rw [if_pos (Classical.not_not.mp h2), ← Int.add_assoc] at hq
        refine k9_iinc fX7_count_21 rfl (Nat.le_of_ble_eq_true rfl) rfl ?_
        first | (rw [if_neg h2, Int.zero_add] at hq) | skip
        refine k9_iinc fX7_count_24 rfl (Nat.le_of_ble_eq_true rfl) rfl ?_
        refine k9_goto fX7_count_27 rfl ?_
        exact ih (k + 1) _ (by omega) (by omega) (by omega) (by omega) hq

theorem eX7_count {r cap : Nat} {v : Int} (hr : isR G r cap) (hs : szR V r cap) (hw : wV V) (hv : rg v) : Rn X 1 104 [.ref r, .int (iI v)] n z G V n z (G) (V) (some (.int (iI (cnt (gA V (r + 1)) v 0 (gI V r 1).toNat)))) := by
  refine T.toR (L := [some (.ref r), some (.int (iI v)), none, none]) rfl ?_
  refine t_s fX7_count_0 rfl rfl rfl ?_
  refine t_l fX7_count_1 rfl rfl rfl rfl ?_
  refine t_s fX7_count_2 rfl rfl rfl ?_
  refine t_l fX7_count_3 rfl rfl rfl rfl ?_
  obtain ⟨hs0, hs1⟩ := id hs
  exact lX7_count hr hs hw hv (gI V r 1).toNat 0 0 (by omega) (by omega) (by omega) (by omega) ⟨rfl, rfl, rfl, rfl, by rw [Int.zero_add]⟩

theorem lX7_fill {r cap : Nat} {v w : Int} (hr : isR G r cap) : ∀ (m : Nat) (k : Int) (V : mV), 0 ≤ k → k + m = gI V r 1 → gI V r 1 ≤ cap → Q n z G (sF V (r + 1) (fun j => if k ≤ (j : Int) ∧ (j : Int) < gI V r 1 then v else gA V (r + 1) j)) none → T X 1 101 19 [some (.ref r), some (.int (iI w)), some (.int (iI v)), some (.int (iI k))] [] n z G V Q := by
  obtain ⟨ho, hc, ha, hcap⟩ := hr
  intro m
  induction m with
  | zero =>
    intro k V h0 hk hsz hq
    refine t_l fX7_fill_19 rfl rfl rfl rfl ?_
    refine t_l fX7_fill_20 rfl rfl rfl rfl ?_
    refine k9_gi fX7_fill_21 (by assumption) kg_7_1 ?_
    refine k9_ic_ge fX7_fill_24 rfl ⟨by omega, by omega⟩ ⟨by omega, by omega⟩ (fun h1 => ?_) (fun h1 => ?_)
    · refine t_ret fX7_fill_39 rX7_fill ?_
      rw [sF_id (fun b => if_neg (by omega))] at hq
      exact hq
    · exfalso; omega
  | succ m ih =>
    intro k V h0 hk hsz hq
    refine t_l fX7_fill_19 rfl rfl rfl rfl ?_
    refine t_l fX7_fill_20 rfl rfl rfl rfl ?_
    refine k9_gi fX7_fill_21 (by assumption) kg_7_1 ?_
    refine k9_ic_ge fX7_fill_24 rfl ⟨by omega, by omega⟩ ⟨by omega, by omega⟩ (fun h1 => ?_) (fun h1 => ?_)
    · refine t_ret fX7_fill_39 rX7_fill ?_
      exfalso; omega
    · refine t_l fX7_fill_27 rfl rfl rfl rfl ?_
      refine t_l fX7_fill_28 rfl rfl rfl rfl ?_
      refine t_l fX7_fill_29 rfl rfl rfl rfl ?_
      refine kcX7_put fX7_fill_30 ho rfl (eX7_put (k := k) ⟨ho, hc, ha, hcap⟩ ⟨by omega, by omega⟩ ⟨by omega, by omega⟩) (by decide) ?_
      rw [show rput V r k v = sA V (r + 1) k.toNat v by unfold rput; rw [if_pos ⟨by omega, by omega⟩]]
      refine k9_iinc fX7_fill_33 rfl (Nat.le_of_ble_eq_true rfl) rfl ?_
      refine k9_goto fX7_fill_36 rfl ?_
      refine ih (k + 1) (sA V (r + 1) k.toNat v) (by omega) (by rw [gI_sA]; omega) (by rw [gI_sA]; omega) ?_
      rw [show sF (sA V (r + 1) k.toNat v) (r + 1) (fun j => if k + 1 ≤ (j : Int) ∧ (j : Int) < gI (sA V (r + 1) k.toNat v) r 1 then v else gA (sA V (r + 1) k.toNat v) (r + 1) j) = sF V (r + 1) (fun j => if k ≤ (j : Int) ∧ (j : Int) < gI V r 1 then v else gA V (r + 1) j) by
        rw [sF_sA]; apply sF_cg; intro b; simp only [gI_sA, gA_sA]
        by_cases hb : b = k.toNat
        · subst hb; simp only [true_and, and_true, if_true]; (repeat' split) <;> first | rfl | (exfalso; omega)
        · (repeat' split) <;> first | rfl | (exfalso; omega)]
      exact hq

theorem eX7_fill {r cap : Nat} {k v : Int} (hr : isR G r cap) (hk : rg k) : Rn X 1 101 [.ref r, .int (iI k), .int (iI v)] n z G V n z (G) (rfill V r cap k v) (none) := by
  refine T.toR (L := [some (.ref r), some (.int (iI k)), some (.int (iI v)), none]) rfl ?_
  obtain ⟨ho, hc, ha, hcap⟩ := id hr
  refine t_l fX7_fill_0 rfl rfl rfl rfl ?_
  refine t_l fX7_fill_1 rfl rfl rfl rfl ?_
  refine t_s fX7_fill_2 rfl rfl rfl ?_
  refine kcM_max fX7_fill_3 rfl (eM_max ⟨by omega, by omega⟩ ⟨by omega, by omega⟩) (by decide) ?_
  refine t_l fX7_fill_6 rfl rfl rfl rfl ?_
  refine k9_gr fX7_fill_7 (by assumption) kg_7_0 (by assumption) ?_
  refine k9_len fX7_fill_10 (by assumption) (by decide) ?_
  refine kcM_min fX7_fill_11 rfl (eM_min ⟨by omega, by omega⟩ ⟨by omega, by omega⟩) (by decide) ?_
  refine k9_pi fX7_fill_14 (by assumption) kp_7_1 ?_
  refine t_s fX7_fill_17 rfl rfl rfl ?_
  refine t_l fX7_fill_18 rfl rfl rfl rfl ?_
  have e : gI (sI V r 1 (min (max k 0) (cap : Int))) r 1 = min (max k 0) (cap : Int) := by rw [gI_sI, if_pos ⟨rfl, rfl⟩]
  refine lX7_fill hr (min (max k 0) (cap : Int)).toNat 0 _ (by omega) (by rw [e]; omega) (by rw [e]; omega) ⟨rfl, rfl, rfl, ?_, rfl⟩
  rw [e]; unfold rfill rset; apply sF_cg; intro b
  (repeat' split) <;> first | rfl | (exfalso; omega)

theorem lX7_copy {r cap p cap2 : Nat} (hr : isR G r cap) (hq2 : isR G p cap2) (hne : p ≠ r) : ∀ (m : Nat) (k : Int) (V : mV), 0 ≤ k → k + m = gI V r 1 → gI V r 1 ≤ cap → gI V r 1 ≤ gI V p 1 → gI V p 1 ≤ cap2 → Q n z G (sF V (r + 1) (fun j => if k ≤ (j : Int) ∧ (j : Int) < gI V r 1 then gA V (p + 1) j else gA V (r + 1) j)) none → T X 1 102 18 [some (.ref r), some (.ref p), some (.int (iI k))] [] n z G V Q := by
  obtain ⟨ho, hc, ha, hcap⟩ := hr
  obtain ⟨ho2, hc2, ha2, hcap2⟩ := hq2
  intro m
  induction m with
  | zero =>
    intro k V h0 hk hsz hsz2 hsz3 hq
    refine t_l fX7_copy_18 rfl rfl rfl rfl ?_
    refine t_l fX7_copy_19 rfl rfl rfl rfl ?_
    refine k9_gi fX7_copy_20 (by assumption) kg_7_1 ?_
    refine k9_ic_ge fX7_copy_23 rfl ⟨by omega, by omega⟩ ⟨by omega, by omega⟩ (fun h1 => ?_) (fun h1 => ?_)
    · refine t_ret fX7_copy_42 rX7_copy ?_
      rw [sF_id (fun b => if_neg (by omega))] at hq
      exact hq
    · exfalso; omega
  | succ m ih =>
    intro k V h0 hk hsz hsz2 hsz3 hq
    refine t_l fX7_copy_18 rfl rfl rfl rfl ?_
    refine t_l fX7_copy_19 rfl rfl rfl rfl ?_
    refine k9_gi fX7_copy_20 (by assumption) kg_7_1 ?_
    refine k9_ic_ge fX7_copy_23 rfl ⟨by omega, by omega⟩ ⟨by omega, by omega⟩ (fun h1 => ?_) (fun h1 => ?_)
    · refine t_ret fX7_copy_42 rX7_copy ?_
      exfalso; omega
    · refine t_l fX7_copy_26 rfl rfl rfl rfl ?_
      refine t_l fX7_copy_27 rfl rfl rfl rfl ?_
      refine t_l fX7_copy_28 rfl rfl rfl rfl ?_
      refine t_l fX7_copy_29 rfl rfl rfl rfl ?_
      refine kcX7_get fX7_copy_30 ho2 rfl (eX7_get (k := k) ⟨ho2, hc2, ha2, hcap2⟩ ⟨by omega, by omega⟩ ⟨by omega, by omega⟩) (by decide) ?_
      rw [show rget V p k = gA V (p + 1) k.toNat by unfold rget; rw [if_pos ⟨by omega, by omega⟩]]
      refine kcX7_put fX7_copy_33 ho rfl (eX7_put (k := k) ⟨ho, hc, ha, hcap⟩ ⟨by omega, by omega⟩ ⟨by omega, by omega⟩) (by decide) ?_
      rw [show rput V r k (gA V (p + 1) k.toNat) = sA V (r + 1) k.toNat (gA V (p + 1) k.toNat) by unfold rput; rw [if_pos ⟨by omega, by omega⟩]]
      refine k9_iinc fX7_copy_36 rfl (Nat.le_of_ble_eq_true rfl) rfl ?_
      refine k9_goto fX7_copy_39 rfl ?_
      refine ih (k + 1) (sA V (r + 1) k.toNat (gA V (p + 1) k.toNat)) (by omega) (by rw [gI_sA]; omega) (by rw [gI_sA]; omega) (by rw [gI_sA]; omega) (by rw [gI_sA]; omega) ?_
      rw [show sF (sA V (r + 1) k.toNat (gA V (p + 1) k.toNat)) (r + 1) (fun j => if k + 1 ≤ (j : Int) ∧ (j : Int) < gI (sA V (r + 1) k.toNat (gA V (p + 1) k.toNat)) r 1 then gA (sA V (r + 1) k.toNat (gA V (p + 1) k.toNat)) (p + 1) j else gA (sA V (r + 1) k.toNat (gA V (p + 1) k.toNat)) (r + 1) j) = sF V (r + 1) (fun j => if k ≤ (j : Int) ∧ (j : Int) < gI V r 1 then gA V (p + 1) j else gA V (r + 1) j) by
        rw [sF_sA]; apply sF_cg; intro b; simp only [gI_sA, gA_sA]
        by_cases hb : b = k.toNat
        · subst hb; simp only [true_and, and_true, if_true]; (repeat' split) <;> first | rfl | (exfalso; omega)
        · (repeat' split) <;> first | rfl | (exfalso; omega)]
      exact hq

theorem eX7_copy {r cap p cap2 : Nat} (hr : isR G r cap) (hq2 : isR G p cap2) (hne : p ≠ r) (hs2 : szR V p cap2) : Rn X 1 102 [.ref r, .ref p] n z G V n z (G) (rcopy V r cap p) (none) := by
  refine T.toR (L := [some (.ref r), some (.ref p), none]) rfl ?_
  obtain ⟨ho, hc, ha, hcap⟩ := id hr
  obtain ⟨ho2, hc2, ha2, hcap2⟩ := id hq2
  obtain ⟨hs0, hs1⟩ := hs2
  refine t_l fX7_copy_0 rfl rfl rfl rfl ?_
  refine t_l fX7_copy_1 rfl rfl rfl rfl ?_
  refine k9_gi fX7_copy_2 (by assumption) kg_7_1 ?_
  refine t_l fX7_copy_5 rfl rfl rfl rfl ?_
  refine k9_gr fX7_copy_6 (by assumption) kg_7_0 (by assumption) ?_
  refine k9_len fX7_copy_9 (by assumption) (by decide) ?_
  refine kcM_min fX7_copy_10 rfl (eM_min ⟨by omega, by omega⟩ ⟨by omega, by omega⟩) (by decide) ?_
  refine k9_pi fX7_copy_13 (by assumption) kp_7_1 ?_
  refine t_s fX7_copy_16 rfl rfl rfl ?_
  refine t_l fX7_copy_17 rfl rfl rfl rfl ?_
  have e : gI (sI V r 1 (min (gI V p 1) (cap : Int))) r 1 = min (gI V p 1) (cap : Int) := by rw [gI_sI, if_pos ⟨rfl, rfl⟩]
  have e2 : gI (sI V r 1 (min (gI V p 1) (cap : Int))) p 1 = gI V p 1 := by rw [gI_sI, if_neg (by omega)]
  refine lX7_copy hr hq2 hne (min (gI V p 1) (cap : Int)).toNat 0 _ (by omega) (by rw [e]; omega) (by rw [e]; omega) (by rw [e, e2]; omega) (by rw [e2]; omega) ⟨rfl, rfl, rfl, ?_, rfl⟩
  rw [e]; unfold rcopy rset; apply sF_cg; intro b; simp only [gA_sI]
  (repeat' split) <;> first | rfl | (exfalso; omega)

theorem lX7_insert {r cap : Nat} {v k0 : Int} (hr : isR G r cap) (hk0 : 0 ≤ k0) : ∀ (m : Nat) (j : Int) (V : mV), k0 + m = j → j < gI V r 1 → gI V r 1 ≤ cap → Q n z G (sF V (r + 1) (fun b => if (b : Int) = k0 then v else if k0 < (b : Int) ∧ (b : Int) ≤ j then gA V (r + 1) (b - 1) else gA V (r + 1) b)) none → T X 1 99 12 [some (.ref r), some (.int (iI k0)), some (.int (iI v)), some (.int (iI j))] [] n z G V Q := by
  obtain ⟨ho, hc, ha, hcap⟩ := hr
  intro m
  induction m with
  | zero =>
    intro j V hj hsz hsz2 hq
    refine t_l fX7_insert_12 rfl rfl rfl rfl ?_
    refine t_l fX7_insert_13 rfl rfl rfl rfl ?_
    refine k9_ic_le fX7_insert_14 rfl ⟨by omega, by omega⟩ ⟨by omega, by omega⟩ (fun h1 => ?_) (fun h1 => ?_)
    · refine t_l fX7_insert_35 rfl rfl rfl rfl ?_
      refine t_l fX7_insert_36 rfl rfl rfl rfl ?_
      refine t_l fX7_insert_37 rfl rfl rfl rfl ?_
      refine kcX7_put fX7_insert_38 ho rfl (eX7_put (k := k0) ⟨ho, hc, ha, hcap⟩ ⟨by omega, by omega⟩ ⟨by omega, by omega⟩) (by decide) ?_
      rw [show rput V r k0 v = sA V (r + 1) k0.toNat v by unfold rput; rw [if_pos ⟨by omega, by omega⟩]]
      refine t_ret fX7_insert_41 rX7_insert ?_
      rw [show sA V (r + 1) k0.toNat v = sF V (r + 1) (fun b => if (b : Int) = k0 then v else if k0 < (b : Int) ∧ (b : Int) ≤ j then gA V (r + 1) (b - 1) else gA V (r + 1) b) by
        rw [sA_sF]; apply sF_cg; intro b
        (repeat' split) <;> first | rfl | (exfalso; omega)]
      exact hq
    · exfalso; omega
  | succ m ih =>
    intro j V hj hsz hsz2 hq
    refine t_l fX7_insert_12 rfl rfl rfl rfl ?_
    refine t_l fX7_insert_13 rfl rfl rfl rfl ?_
    refine k9_ic_le fX7_insert_14 rfl ⟨by omega, by omega⟩ ⟨by omega, by omega⟩ (fun h1 => ?_) (fun h1 => ?_)
    · exfalso; omega
    · refine t_l fX7_insert_17 rfl rfl rfl rfl ?_
      refine t_l fX7_insert_18 rfl rfl rfl rfl ?_
      refine t_l fX7_insert_19 rfl rfl rfl rfl ?_
      refine t_l fX7_insert_20 rfl rfl rfl rfl ?_
      refine t_s fX7_insert_21 rfl rfl rfl ?_
      refine k9_isub fX7_insert_22 ?_
      refine kcX7_get fX7_insert_23 ho rfl (eX7_get (k := j - 1) ⟨ho, hc, ha, hcap⟩ ⟨by omega, by omega⟩ ⟨by omega, by omega⟩) (by decide) ?_
      rw [show rget V r (j - 1) = gA V (r + 1) (j - 1).toNat by unfold rget; rw [if_pos ⟨by omega, by omega⟩]]
      refine kcX7_put fX7_insert_26 ho rfl (eX7_put (k := j) ⟨ho, hc, ha, hcap⟩ ⟨by omega, by omega⟩ ⟨by omega, by omega⟩) (by decide) ?_
      rw [show rput V r j (gA V (r + 1) (j - 1).toNat) = sA V (r + 1) j.toNat (gA V (r + 1) (j - 1).toNat) by unfold rput; rw [if_pos ⟨by omega, by omega⟩]]
      refine k9_iinc fX7_insert_29 rfl (Nat.le_of_ble_eq_true rfl) rfl ?_
      refine k9_goto fX7_insert_32 rfl ?_
      refine ih (j + -1) (sA V (r + 1) j.toNat (gA V (r + 1) (j - 1).toNat)) (by omega) (by rw [gI_sA]; omega) (by rw [gI_sA]; omega) ?_
      rw [show sF (sA V (r + 1) j.toNat (gA V (r + 1) (j - 1).toNat)) (r + 1) (fun b => if (b : Int) = k0 then v else if k0 < (b : Int) ∧ (b : Int) ≤ j + -1 then gA (sA V (r + 1) j.toNat (gA V (r + 1) (j - 1).toNat)) (r + 1) (b - 1) else gA (sA V (r + 1) j.toNat (gA V (r + 1) (j - 1).toNat)) (r + 1) b) = sF V (r + 1) (fun b => if (b : Int) = k0 then v else if k0 < (b : Int) ∧ (b : Int) ≤ j then gA V (r + 1) (b - 1) else gA V (r + 1) b) by
        rw [sF_sA]; apply sF_cg; intro b; simp only [gA_sA, true_and]
        by_cases hb : b = j.toNat
        · subst hb
          rw [show (j - 1).toNat = j.toNat - 1 by omega]
          (repeat' split) <;> first | rfl | (exfalso; omega)
        · (repeat' split) <;> first | rfl | (exfalso; omega)]
      exact hq

/-- a number put in at place k, behind it all moves up -/
def rins (V : mV) (r : Nat) (k v : Int) : mV := sI (sF V (r + 1) (fun b => if (b : Int) = k then v else if k < (b : Int) ∧ (b : Int) ≤ gI V r 1 then gA V (r + 1) (b - 1) else gA V (r + 1) b)) r 1 (gI V r 1 + 1)
theorem eX7_insert {r cap : Nat} {k v : Int} (hr : isR G r cap) (hs : szR V r cap) (hk : 0 ≤ k ∧ k ≤ gI V r 1) (hlt : gI V r 1 < cap) : Rn X 1 99 [.ref r, .int (iI k), .int (iI v)] n z G V n z (G) (rins V r k v) (none) := by
  refine T.toR (L := [some (.ref r), some (.int (iI k)), some (.int (iI v)), none]) rfl ?_
  obtain ⟨ho, hc, ha, hcap⟩ := id hr
  obtain ⟨hs0, hs1⟩ := id hs
  refine t_l fX7_insert_0 rfl rfl rfl rfl ?_
  refine t_l fX7_insert_1 rfl rfl rfl rfl ?_
  refine kcX7_add fX7_insert_2 ho rfl (eX7_add hr hs) (by decide) ?_
  rw [show radd V r cap v = sI (sA V (r + 1) (gI V r 1).toNat v) r 1 (gI V r 1 + 1) by unfold radd; rw [if_pos (by omega)]]
  refine t_l fX7_insert_5 rfl rfl rfl rfl ?_
  refine k9_gi fX7_insert_6 (by assumption) kg_7_1 ?_
  refine t_s fX7_insert_9 rfl rfl rfl ?_
  refine k9_isub fX7_insert_10 ?_
  refine t_l fX7_insert_11 rfl rfl rfl rfl ?_
  have e : gI (sI (sA V (r + 1) (gI V r 1).toNat v) r 1 (gI V r 1 + 1)) r 1 = gI V r 1 + 1 := by rw [gI_sI, if_pos ⟨rfl, rfl⟩]
  rw [e]
  refine lX7_insert hr hk.1 (gI V r 1 - k).toNat (gI V r 1 + 1 - 1) _ (by omega) (by rw [e]; omega) (by rw [e]; omega) ⟨rfl, rfl, rfl, ?_, rfl⟩
  unfold rins
  rw [show ∀ g : Nat → Int, sF (sI (sA V (r + 1) (gI V r 1).toNat v) r 1 (gI V r 1 + 1)) (r + 1) g = sI (sF (sA V (r + 1) (gI V r 1).toNat v) (r + 1) g) r 1 (gI V r 1 + 1) from fun _ => rfl, sF_sA]
  congr 1
  apply sF_cg; intro b; simp only [gA_sI, gA_sA, true_and]
  (repeat' split) <;> first | rfl | (exfalso; omega)

theorem eX7_init {r cap : Nat} {c : Int} (ho : G.1 r = .inl 7) (hrn : r ≠ n) (hc : c = (cap : Int)) (hcap : cap ≤ 2000) : Rn X 1 94 [.ref r, .int (iI c)] n z G V (n + 1) (z + cap) (sR (nw G n (.inr (0, cap))) r 0 (.ref n)) (zA V n) (none) := by
  refine T.toR (L := [some (.ref r), some (.int (iI c))]) rfl ?_
  subst hc
  refine t_l fX7_init_0 rfl rfl rfl rfl ?_
  refine t_s fX7_init_1 rfl rfl rfl ?_
  refine t_l fX7_init_4 rfl rfl rfl rfl ?_
  refine t_l fX7_init_5 rfl rfl rfl rfl ?_
  refine t_s fX7_init_6 rfl rfl rfl ?_
  refine kcM_max fX7_init_7 rfl (eM_max ⟨by omega, by omega⟩ ⟨by omega, by omega⟩) (by decide) ?_
  rw [show max (cap : Int) 0 = (cap : Int) by omega]
  refine k9_na fX7_init_10 rfl (by omega) ?_
  refine k9_pr fX7_init_12 (show (nw G n (.inr (0, cap))).1 r = .inl 7 by simp [nw, hrn, ho]) kp_7_0 ?_
  refine t_ret fX7_init_15 rX7_init ?_
  exact ⟨rfl, rfl, rfl, rfl, rfl⟩

end

/-! sums and tests read by the class: the whole -/
theorem seqR_as {a : tR} {f g : List Int → Nat → tR} : seqR (seqR a f) g = seqR a (fun c q => seqR (f c q) g) := by cases a <;> rfl
def need8 (w o : Nat) : Nat := 8 * (7 - o) + (6 - w)
section
variable {G : mG} {r : Nat} {T : mT2} {md : Nat}
theorem pr64 (hT : tOk T) {w o p : Nat} {c : List Int} {q : Nat} (hp : p ≤ T.2) (h : rd (kT md T) 64 w o p = .inr (c, q)) : p < q ∧ q ≤ T.2 ∧ c.length + p ≤ q := rd_pr okK_T hT.1 64 w o p c q hp h
theorem cF_0 {V : mV} {p : Nat} {cs : List Int} (h : cF G V r T md p cs) : cQ G V r T md cs (.inr ([], p)) := by
  show cF G V r T md p (cs ++ [])
  rw [List.append_nil]; exact h
theorem nx_le {p : Nat} (hp : p ≤ T.2) : p ≤ nxT T p ∧ nxT T p ≤ T.2 := by
  by_cases z : p < T.2
  · have := nxT_gt z; omega
  · rw [nxT_out (by omega)]; omega
/-- what opens, then a piece, by steps -/
theorem Q_oprec (hG : is6 G r) (ho : oR G r) {V : mV} {cs : List Int} {p o w : Nat} {F : mV → Option (mV × Int)} (h : cF G V r T md p cs) (ho6 : o ≤ 6) (hb : badP r F) (hr : o < 6 → rdsP G r T md F (rd (kT md T) 64 w (o + 1))) :
    ∃ V1 V2 v2, F_X6_takeOpening G r (o : Int) V = some (V1, 0) ∧ F V1 = some (V2, v2) ∧ f7 G r V V2 ∧ cQ G V2 r T md cs (if 6 ≤ o then .inl (4, (p : Int)) else rd (kT md T) 64 w (o + 1) (knx (kT md T) p)) := by
  obtain ⟨V1, a1, a2, a3⟩ := Q_op (md := md) hG ho (cF_0 h) ho6
  have a3' : cQ G V1 r T md cs (if 6 ≤ o then .inl (4, (p : Int)) else .inr ([], knx (kT md T) p)) := a3
  by_cases z : 6 ≤ o
  · rw [if_pos z] at a3' ⊢
    obtain ⟨-, b2, b3⟩ := (a3' : cX G V1 r T md (4, (p : Int))).bad
    exact ⟨V1, V1, 0, a1, hb V1 b2 b3, a2, a3'⟩
  · rw [if_neg z] at a3' ⊢
    have h1 : cF G V1 r T md (knx (kT md T) p) (cs ++ []) := a3'
    rw [List.append_nil] at h1
    obtain ⟨V2, v2, b1, b2, b3⟩ := hr (by omega) V1 _ _ h1
    exact ⟨V1, V2, v2, a1, b1, a2.trans b2, b3⟩
theorem FR_test (hG : is6 G r) (hT : tOk T) (ho : oR G r) {f o : Nat} (ho6 : o ≤ 6) (hrec : rdsP G r T md (FR G r f 1 (o : Int) 0) (rd (kT md T) 64 1 o)) : rdsP G r T md (FR G r (f + 1) 0 (o : Int) 0) (rd (kT md T) 64 0 o) := by
  have key := c_first 1700 (by decide) (rec := FR G r f) (cd := orc (kT md T)) hG hT ho (B := fun s V => B_X6_readTest_7 (FR G r f) G r (o : Int) s V) (fun p => orc_ne) ?_ ?_ ?_ hrec (fun p c q hp h => pr64 hT hp h)
  · intro V p cs h
    have := key V p cs h
    rw [rx_0 ho6]
    exact this
  · intro V p cs s h h0 h1 e0
    show B_X6_readTest_7 _ _ _ _ _ _ = _
    unfold B_X6_readTest_7
    have n : nmT T p ≠ 18 := fun q => by
      have := (cl_21 (md := md)).mpr q
      unfold orc at e0
      rw [if_pos (show kcl (kT md T) p = 21 from this)] at e0
      cases e0
    have e := k6_isw hG h.1 h.2.1 (w := 18) (by decide)
    rw [if_neg n] at e
    exact E_gd ⟨by omega, by omega⟩ (E_if (fun _ => rfl) (fun _ => E_bd e (E_gd (by decide) (E_if (fun _ => rfl) (fun q => absurd rfl q)))))
  · intro V p cs s h h0 h1 e0
    obtain ⟨a, b, -⟩ := orc_is e0
    have e := k6_isw hG h.1 h.2.1 (w := 18) (by decide)
    rw [if_pos ((cl_21 (md := md)).mp a)] at e
    refine ⟨14, by decide, by rw [b]; rfl, ?_⟩
    show B_X6_readTest_7 _ _ _ _ _ _ = _
    unfold B_X6_readTest_7
    exact E_gd ⟨by omega, by omega⟩ (E_if (fun q => by omega) (fun _ => E_bd e (E_gd (by decide) (E_if (fun q => absurd q (by decide)) (fun _ => rfl)))))
  · intro V s b1 b2 h0 h1
    show B_X6_readTest_7 _ _ _ _ _ _ = _
    unfold B_X6_readTest_7
    exact E_gd ⟨by omega, by omega⟩ (E_if (fun _ => rfl) (fun _ => E_bd (k6_isw1 b1 b2) (E_gd (by decide) (E_if (fun _ => rfl) (fun q => absurd rfl q)))))
theorem FR_both (hG : is6 G r) (hT : tOk T) (ho : oR G r) {f o : Nat} (ho6 : o ≤ 6) (hrec : rdsP G r T md (FR G r f 2 (o : Int) 0) (rd (kT md T) 64 2 o)) : rdsP G r T md (FR G r (f + 1) 1 (o : Int) 0) (rd (kT md T) 64 1 o) := by
  have key := c_first 1700 (by decide) (rec := FR G r f) (cd := andc (kT md T)) hG hT ho (B := fun s V => B_X6_readBoth_7 (FR G r f) G r (o : Int) s V) (fun p => andc_ne) ?_ ?_ ?_ hrec (fun p c q hp h => pr64 hT hp h)
  · intro V p cs h
    have := key V p cs h
    rw [rx_1 ho6]
    exact this
  · intro V p cs s h h0 h1 e0
    show B_X6_readBoth_7 _ _ _ _ _ _ = _
    unfold B_X6_readBoth_7
    have n : nmT T p ≠ 19 := fun q => by
      have := (cl_20 (md := md)).mpr q
      unfold andc at e0
      rw [if_pos (show kcl (kT md T) p = 20 from this)] at e0
      cases e0
    have e := k6_isw hG h.1 h.2.1 (w := 19) (by decide)
    rw [if_neg n] at e
    exact E_gd ⟨by omega, by omega⟩ (E_if (fun _ => rfl) (fun _ => E_bd e (E_gd (by decide) (E_if (fun _ => rfl) (fun q => absurd rfl q)))))
  · intro V p cs s h h0 h1 e0
    obtain ⟨a, b⟩ := andc_is e0
    have e := k6_isw hG h.1 h.2.1 (w := 19) (by decide)
    rw [if_pos ((cl_20 (md := md)).mp a)] at e
    refine ⟨13, by decide, by rw [b]; rfl, ?_⟩
    show B_X6_readBoth_7 _ _ _ _ _ _ = _
    unfold B_X6_readBoth_7
    exact E_gd ⟨by omega, by omega⟩ (E_if (fun q => by omega) (fun _ => E_bd e (E_gd (by decide) (E_if (fun q => absurd q (by decide)) (fun _ => rfl)))))
  · intro V s b1 b2 h0 h1
    show B_X6_readBoth_7 _ _ _ _ _ _ = _
    unfold B_X6_readBoth_7
    exact E_gd ⟨by omega, by omega⟩ (E_if (fun _ => rfl) (fun _ => E_bd (k6_isw1 b1 b2) (E_gd (by decide) (E_if (fun _ => rfl) (fun q => absurd rfl q)))))
theorem FR_sum (hG : is6 G r) (hT : tOk T) (ho : oR G r) {f o : Nat} (ho6 : o ≤ 6) (hrec : rdsP G r T md (FR G r f 4 (o : Int) 0) (rd (kT md T) 64 4 o)) : rdsP G r T md (FR G r (f + 1) 3 (o : Int) 0) (rd (kT md T) 64 3 o) := by
  have key := c_first 1700 (by decide) (rec := FR G r f) (cd := addc (kT md T)) hG hT ho (B := fun s V => B_X6_readSum_7 (FR G r f) G r (o : Int) s V) (fun p => addc_ne) ?_ ?_ ?_ hrec (fun p c q hp h => pr64 hT hp h)
  · intro V p cs h
    have := key V p cs h
    rw [rx_3 ho6]
    exact this
  · intro V p cs s h h0 h1 e0
    show B_X6_readSum_7 _ _ _ _ _ _ = _
    unfold B_X6_readSum_7
    unfold addc at e0
    have n1 : ¬ (kdT T p = 2 ∧ T.1 p = 43) := fun q => by
      rw [if_pos (show kcl (kT md T) p = 11 from cl_11.mpr q)] at e0
      cases e0
    have n2 : ¬ (kdT T p = 2 ∧ T.1 p = 45) := fun q => by
      have k12 : kcl (kT md T) p = 12 := cl_12.mpr q
      rw [if_neg (by omega), if_pos k12] at e0
      cases e0
    have e := k6_sign hG hT h.1 h.2.1 (s := 43) (by decide)
    rw [if_neg n1] at e
    have e2 := k6_sign hG hT h.1 h.2.1 (s := 45) (by decide)
    rw [if_neg n2] at e2
    exact E_gd ⟨by omega, by omega⟩ (E_if (fun _ => rfl) (fun _ => E_bd e (E_gd (by decide) (E_if (fun _ => E_bd e2 (E_gd (by decide) (E_if (fun _ => rfl) (fun q => absurd rfl q)))) (fun q => absurd rfl q)))))
  · intro V p cs s h h0 h1 e0
    obtain ⟨a, b, -⟩ := addc_is e0
    have e := k6_sign hG hT h.1 h.2.1 (s := 43) (by decide)
    have e2 := k6_sign hG hT h.1 h.2.1 (s := 45) (by decide)
    by_cases c11 : kcl (kT md T) p = 11
    · have b1 : addc (kT md T) p = 1 := by unfold addc; rw [if_pos c11]
      rw [if_pos ((cl_11 (md := md)).mp c11)] at e
      refine ⟨4, by decide, by rw [b1]; rfl, ?_⟩
      show B_X6_readSum_7 _ _ _ _ _ _ = _
      unfold B_X6_readSum_7
      refine E_gd ⟨by omega, by omega⟩ (E_if (fun q => by omega) (fun _ => E_bd e (E_gd (by decide) (E_if (fun q => absurd q (by decide)) (fun _ => ?_)))))
      unfold F_X6_readSum_J32_7
      exact E_bd e (E_gd (by decide) (E_if (fun q => absurd q (by decide)) (fun _ => rfl)))
    · have c12 : kcl (kT md T) p = 12 := by omega
      have b1 : addc (kT md T) p = 2 := by unfold addc; rw [if_neg c11, if_pos c12]
      rw [if_neg (fun z => c11 ((cl_11 (md := md)).mpr z))] at e
      rw [if_pos ((cl_12 (md := md)).mp c12)] at e2
      refine ⟨5, by decide, by rw [b1]; rfl, ?_⟩
      show B_X6_readSum_7 _ _ _ _ _ _ = _
      unfold B_X6_readSum_7
      refine E_gd ⟨by omega, by omega⟩ (E_if (fun q => by omega) (fun _ => E_bd e (E_gd (by decide) (E_if (fun _ => E_bd e2 (E_gd (by decide) (E_if (fun q => absurd q (by decide)) (fun _ => ?_)))) (fun q => absurd rfl q)))))
      unfold F_X6_readSum_J32_7
      exact E_bd e (E_gd (by decide) (E_if (fun _ => rfl) (fun q => absurd rfl q)))
  · intro V s b1 b2 h0 h1
    show B_X6_readSum_7 _ _ _ _ _ _ = _
    unfold B_X6_readSum_7
    exact E_gd ⟨by omega, by omega⟩ (E_if (fun _ => rfl) (fun _ => E_bd (k6_sign1 b1 b2) (E_gd (by decide) (E_if (fun _ => E_bd (k6_sign1 b1 b2) (E_gd (by decide) (E_if (fun _ => rfl) (fun q => absurd rfl q)))) (fun q => absurd rfl q)))))
theorem FR_prod (hG : is6 G r) (hT : tOk T) (ho : oR G r) {f o : Nat} (ho6 : o ≤ 6) (hrec : rdsP G r T md (FR G r f 5 (o : Int) 0) (rd (kT md T) 64 5 o)) : rdsP G r T md (FR G r (f + 1) 4 (o : Int) 0) (rd (kT md T) 64 4 o) := by
  have key := c_first 1700 (by decide) (rec := FR G r f) (cd := mulc (kT md T)) hG hT ho (B := fun s V => B_X6_readProduct_7 (FR G r f) G r (o : Int) s V) (fun p => mulc_ne) ?_ ?_ ?_ hrec (fun p c q hp h => pr64 hT hp h)
  · intro V p cs h
    have := key V p cs h
    rw [rx_4 ho6]
    exact this
  · intro V p cs s h h0 h1 e0
    show B_X6_readProduct_7 _ _ _ _ _ _ = _
    unfold B_X6_readProduct_7
    unfold mulc at e0
    have n1 : ¬ (kdT T p = 2 ∧ T.1 p = 42) := fun q => by
      rw [if_pos (show kcl (kT md T) p = 9 from cl_9.mpr q)] at e0
      cases e0
    have n2 : ¬ (kdT T p = 2 ∧ T.1 p = 47) := fun q => by
      have k12 : kcl (kT md T) p = 10 := cl_10.mpr q
      rw [if_neg (by omega), if_pos k12] at e0
      cases e0
    have e := k6_sign hG hT h.1 h.2.1 (s := 42) (by decide)
    rw [if_neg n1] at e
    have e2 := k6_sign hG hT h.1 h.2.1 (s := 47) (by decide)
    rw [if_neg n2] at e2
    exact E_gd ⟨by omega, by omega⟩ (E_if (fun _ => rfl) (fun _ => E_bd e (E_gd (by decide) (E_if (fun _ => E_bd e2 (E_gd (by decide) (E_if (fun _ => rfl) (fun q => absurd rfl q)))) (fun q => absurd rfl q)))))
  · intro V p cs s h h0 h1 e0
    obtain ⟨a, b⟩ := mulc_is e0
    have e := k6_sign hG hT h.1 h.2.1 (s := 42) (by decide)
    have e2 := k6_sign hG hT h.1 h.2.1 (s := 47) (by decide)
    by_cases c11 : kcl (kT md T) p = 9
    · have b1 : mulc (kT md T) p = 3 := by unfold mulc; rw [if_pos c11]
      rw [if_pos ((cl_9 (md := md)).mp c11)] at e
      refine ⟨6, by decide, by rw [b1]; rfl, ?_⟩
      show B_X6_readProduct_7 _ _ _ _ _ _ = _
      unfold B_X6_readProduct_7
      refine E_gd ⟨by omega, by omega⟩ (E_if (fun q => by omega) (fun _ => E_bd e (E_gd (by decide) (E_if (fun q => absurd q (by decide)) (fun _ => ?_)))))
      unfold F_X6_readProduct_J32_7
      exact E_bd e (E_gd (by decide) (E_if (fun q => absurd q (by decide)) (fun _ => rfl)))
    · have c12 : kcl (kT md T) p = 10 := by omega
      have b1 : mulc (kT md T) p = 4 := by unfold mulc; rw [if_neg c11, if_pos c12]
      rw [if_neg (fun z => c11 ((cl_9 (md := md)).mpr z))] at e
      rw [if_pos ((cl_10 (md := md)).mp c12)] at e2
      refine ⟨7, by decide, by rw [b1]; rfl, ?_⟩
      show B_X6_readProduct_7 _ _ _ _ _ _ = _
      unfold B_X6_readProduct_7
      refine E_gd ⟨by omega, by omega⟩ (E_if (fun q => by omega) (fun _ => E_bd e (E_gd (by decide) (E_if (fun _ => E_bd e2 (E_gd (by decide) (E_if (fun q => absurd q (by decide)) (fun _ => ?_)))) (fun q => absurd rfl q)))))
      unfold F_X6_readProduct_J32_7
      exact E_bd e (E_gd (by decide) (E_if (fun _ => rfl) (fun q => absurd rfl q)))
  · intro V s b1 b2 h0 h1
    show B_X6_readProduct_7 _ _ _ _ _ _ = _
    unfold B_X6_readProduct_7
    exact E_gd ⟨by omega, by omega⟩ (E_if (fun _ => rfl) (fun _ => E_bd (k6_sign1 b1 b2) (E_gd (by decide) (E_if (fun _ => E_bd (k6_sign1 b1 b2) (E_gd (by decide) (E_if (fun _ => rfl) (fun q => absurd rfl q)))) (fun q => absurd rfl q)))))
/-- a comparison's sign -/
theorem k6_cmp (hG : is6 G r) (hT : tOk T) {V : mV} {p : Nat} (h : cA V r T p) (h0 : gI V r 11 = 0) : F_X6_comparison G r V = some (V, if cmpc (kT md T) p = 0 then -1 else cmpc (kT md T) p + 3) := by
  have e1 := k6_sign hG hT h h0 (s := 60) (by decide)
  have e2 := k6_sign hG hT h h0 (s := 62) (by decide)
  have e3 := k6_sign hG hT h h0 (s := 61) (by decide)
  have c13 : kcl (kT md T) p = 13 ↔ _ := cl_13
  have c14 : kcl (kT md T) p = 14 ↔ _ := cl_14
  have c15 : kcl (kT md T) p = 15 ↔ _ := cl_15
  unfold F_X6_comparison cmpc
  by_cases a : kcl (kT md T) p = 13
  · rw [if_pos (c13.mp a)] at e1
    rw [if_pos a]
    exact E_bd e1 (E_gd (by decide) (E_if (fun q => absurd q (by decide)) (fun _ => rfl)))
  rw [if_neg (fun z => a (c13.mpr z))] at e1
  rw [if_neg a]
  refine E_bd e1 (E_gd (by decide) (E_if (fun _ => ?_) (fun q => absurd rfl q)))
  by_cases b : kcl (kT md T) p = 14
  · rw [if_pos (c14.mp b)] at e2
    rw [if_pos b]
    exact E_bd e2 (E_gd (by decide) (E_if (fun q => absurd q (by decide)) (fun _ => rfl)))
  rw [if_neg (fun z => b (c14.mpr z))] at e2
  rw [if_neg b]
  refine E_bd e2 (E_gd (by decide) (E_if (fun _ => ?_) (fun q => absurd rfl q)))
  by_cases d : kcl (kT md T) p = 15
  · rw [if_pos (c15.mp d)] at e3
    rw [if_pos d]
    exact E_bd e3 (E_gd (by decide) (E_if (fun q => absurd q (by decide)) (fun _ => rfl)))
  rw [if_neg (fun z => d (c15.mpr z))] at e3
  rw [if_neg d]
  exact E_bd e3 (E_gd (by decide) (E_if (fun _ => rfl) (fun q => absurd rfl q)))
theorem k6_cmp1 {V : mV} (b1 : gI V r 11 ≠ 0) (b2 : rg (gI V r 11)) : F_X6_comparison G r V = some (V, -1) := by
  unfold F_X6_comparison
  exact E_bd (k6_sign1 b1 b2) (E_gd (by decide) (E_if (fun _ => E_bd (k6_sign1 b1 b2) (E_gd (by decide) (E_if (fun _ => E_bd (k6_sign1 b1 b2) (E_gd (by decide) (E_if (fun _ => rfl) (fun q => absurd rfl q)))) (fun q => absurd rfl q)))) (fun q => absurd rfl q)))
theorem FR_fact (hG : is6 G r) (hT : tOk T) (ho : oR G r) {f o : Nat} (ho6 : o ≤ 6) (h6 : 6 ≤ f) (r3 : rdsP G r T md (FR G r f 3 (o : Int) 0) (rd (kT md T) 64 3 o)) (r2 : o < 6 → rdsP G r T md (FR G r f 2 ((o : Int) + 1) 0) (rd (kT md T) 64 2 (o + 1))) (r0 : o < 6 → rdsP G r T md (FR G r f 0 ((o : Int) + 1) 0) (rd (kT md T) 64 0 (o + 1))) : rdsP G r T md (FR G r (f + 1) 2 (o : Int) 0) (rd (kT md T) 64 2 o) := by
  intro V p cs h
  have hp := cA_le h.1
  have hl := h.2.2.2.1
  rw [rx_2 ho6]
  show ∃ V' v, F_X6_readFact (FR G r f) G r (o : Int) V = some (V', v) ∧ f7 G r V V' ∧ cQ G V' r T md cs (rdF (kT md T) (rd (kT md T) 64) o p)
  have c18 : kcl (kT md T) p = 18 ↔ _ := cl_18
  have c16 : kcl (kT md T) p = 16 ↔ _ := cl_16
  have c19 : kcl (kT md T) p = 19 ↔ _ := cl_19
  have e1 := k6_isw hG h.1 h.2.1 (w := 20) (by decide)
  have e2 := k6_sign hG hT h.1 h.2.1 (s := 91) (by decide)
  have e3 := k6_isw hG h.1 h.2.1 (w := 21) (by decide)
  have hx : ∀ w, w ≤ 5 → ∀ a : Int, badP r (FR G r f w a 0) := fun w hw a V b1 b2 => FR_bad b1 b2 f w a 0 hw (by omega)
  unfold rdF
  by_cases k18 : kcl (kT md T) p = 18
  · rw [if_pos (c18.mp k18)] at e1
    rw [if_pos k18]
    obtain ⟨V1, V2, v2, a1, a2, a3, a4⟩ := Q_oprec (w := 2) hG ho h ho6 (hx 2 (by decide) ((o : Int) + 1)) r2
    obtain ⟨V3, d1, d2, d3⟩ := Q_wr hG hT ho a4 (fun c q hc => by
      split at hc
      · cases hc
      have hk := okK_T p (show kcl (kT md T) p ≠ 0 by omega)
      have pr := pr64 hT hk.2.2 hc
      omega) (s := 3) (w := 0) (v := 12) (by decide) (by decide) rfl
    refine ⟨V3, 0, ?_, a3.trans d2, ?_⟩
    · unfold F_X6_readFact
      exact E_bd (k6_fine h.2.1) (E_gd (by decide) (E_if (fun q => absurd q (by decide)) (fun _ => E_gd ⟨by omega, by omega⟩ (E_if (fun _ => E_bd e1 (E_gd (by decide) (E_if (fun q => absurd q (by decide)) (fun _ => E_bd a1 (E_bd a2 (E_bd d1 rfl)))))) (fun q => by omega)))))
    · by_cases z : 6 ≤ o
      · rw [if_pos z] at d3 ⊢; exact d3
      · rw [if_neg z] at d3 ⊢; exact d3
  rw [if_neg (fun z => k18 (c18.mpr z))] at e1
  rw [if_neg k18]
  by_cases k16 : kcl (kT md T) p = 16
  · rw [if_pos (c16.mp k16)] at e2
    rw [if_pos k16]
    obtain ⟨V1, V2, v2, a1, a2, a3, a4⟩ := Q_oprec (w := 0) hG ho h ho6 (hx 0 (by decide) ((o : Int) + 1)) r0
    obtain ⟨V3, d1, d2, d3⟩ := Q_sg hG hT ho a4 (s := 93) (k := 17) (by decide) (fun q => cl_17)
    refine ⟨V3, 0, ?_, a3.trans d2, ?_⟩
    · unfold F_X6_readFact
      exact E_bd (k6_fine h.2.1) (E_gd (by decide) (E_if (fun q => absurd q (by decide)) (fun _ => E_gd ⟨by omega, by omega⟩ (E_if (fun _ => E_bd e1 (E_gd (by decide) (E_if (fun _ => E_bd e2 (E_gd (by decide) (E_if (fun q => absurd q (by decide)) (fun _ => E_bd a1 (E_bd a2 (E_bd d1 rfl)))))) (fun q => absurd rfl q)))) (fun q => by omega)))))
    · by_cases z : 6 ≤ o
      · rw [if_pos z] at d3 ⊢; exact d3
      · rw [if_neg z] at d3 ⊢; exact d3
  rw [if_neg (fun z => k16 (c16.mpr z))] at e2
  rw [if_neg k16]
  by_cases k19 : kcl (kT md T) p = 19
  · rw [if_pos (c19.mp k19)] at e3
    rw [if_pos k19]
    obtain ⟨V1, t1, t2, t3⟩ := k6_take hG h.1 h.2.1
    have hk := okK_T p (show kcl (kT md T) p ≠ 0 by omega)
    have hk2 : p < nxT T p := hk.2.1
    have h1 := h.nx6 ho t2 (by omega) t3
    obtain ⟨V2, w1, w2, w3⟩ := cF.wr hG hT ho h1 (by omega) (s := 0) (w := 1) (v := 13) (by decide) (by decide) rfl
    refine ⟨V2, 0, ?_, t2.t7.trans w2, w3⟩
    unfold F_X6_readFact
    exact E_bd (k6_fine h.2.1) (E_gd (by decide) (E_if (fun q => absurd q (by decide)) (fun _ => E_gd ⟨by omega, by omega⟩ (E_if (fun _ => E_bd e1 (E_gd (by decide) (E_if (fun _ => E_bd e2 (E_gd (by decide) (E_if (fun _ => E_bd e3 (E_gd (by decide) (E_if (fun q => absurd q (by decide)) (fun _ => E_bd t1 (E_bd w1 rfl))))) (fun q => absurd rfl q)))) (fun q => absurd rfl q)))) (fun q => by omega)))))
  rw [if_neg (fun z => k19 (c19.mpr z))] at e3
  rw [if_neg k19]
  obtain ⟨V1, v1, a1, a2, a3⟩ := r3 V p cs h
  have fin : ∀ V' v, bd (F_X6_comparison G r V1) (fun V26 v27 =>
      gd (rg v27) <|
      if v27 = (-1) then (bd (F_X6_here G r V26) fun V40 v41 =>
      bd (F_X6_fail G r 1 v41 V40) fun V43 v44 =>
      F_X6_readFact_J126 (FR G r f) G r (o : Int) v27 V43) else (F_X6_readFact_J126 (FR G r f) G r (o : Int) v27 V26)) = some (V', v) → F_X6_readFact (FR G r f) G r (o : Int) V = some (V', v) := by
    intro V' v e
    unfold F_X6_readFact
    exact E_bd (k6_fine h.2.1) (E_gd (by decide) (E_if (fun q => absurd q (by decide)) (fun _ => E_gd ⟨by omega, by omega⟩ (E_if (fun _ => E_bd e1 (E_gd (by decide) (E_if (fun _ => E_bd e2 (E_gd (by decide) (E_if (fun _ => E_bd e3 (E_gd (by decide) (E_if (fun _ => E_bd a1 e) (fun q => absurd rfl q)))) (fun q => absurd rfl q)))) (fun q => absurd rfl q)))) (fun q => by omega)))))
  cases hR : rd (kT md T) 64 3 o p with
  | inl e =>
    rw [hR] at a3
    have a3' : cX G V1 r T md e := a3
    obtain ⟨⟨p1, b1⟩, b2, b3⟩ := a3'.bad
    obtain ⟨V2, w1, w2, w3⟩ := cX.wr hG ho a3' (s := -1) (w := 0) (by decide) (Or.inr rfl)
    refine ⟨V2, 0, fin V2 0 ?_, a2.trans w2, w3⟩
    refine E_bd (k6_cmp1 b2 b3) (E_gd (by decide) (E_if (fun _ => E_bd (k6_here hG b1) (E_bd (k6_fail1 b2 b3) ?_)) (fun q => absurd rfl q)))
    unfold F_X6_readFact_J126
    exact E_bd (k6_take1 b2 b3) (E_bd (hx 3 (by decide) (o : Int) V1 b2 b3) (E_bd w1 rfl))
  | inr x =>
    obtain ⟨c1, q1⟩ := x
    rw [hR] at a3
    have a3' : cF G V1 r T md q1 (cs ++ c1) := a3
    have pr := pr64 hT hp hR
    have ec := k6_cmp (md := md) hG hT a3'.1 a3'.2.1
    show ∃ V' v, _ ∧ _ ∧ cQ G V' r T md cs (if cmpc (kT md T) q1 = 0 then .inl (1, (q1 : Int)) else seqR (rd (kT md T) 64 3 o (knx (kT md T) q1)) (fun c2 q2 => .inr (c1 ++ c2 ++ [cmpc (kT md T) q1], q2)))
    by_cases k0 : cmpc (kT md T) q1 = 0
    · rw [if_pos k0] at ec ⊢
      obtain ⟨V2, b1, b2, b3, b4⟩ := k6_fail (G := G) a3'.1 a3'.2.1 (k := 1) (w := (q1 : Int)) ⟨by decide, by decide⟩
      have x2 := a3'.x6 hG ho b2 b3
      have bb := x2.bad
      obtain ⟨V3, w1, w2, w3⟩ := cX.wr hG ho x2 (s := -1) (w := 0) (by decide) (Or.inr rfl)
      refine ⟨V3, 0, fin V3 0 ?_, (a2.trans b2.t7).trans w2, w3⟩
      refine E_bd ec (E_gd (by decide) (E_if (fun _ => E_bd (k6_here hG a3'.1) (E_bd b1 ?_)) (fun q => absurd rfl q)))
      unfold F_X6_readFact_J126
      exact E_bd (k6_take1 bb.2.1 bb.2.2) (E_bd (hx 3 (by decide) (o : Int) V2 bb.2.1 bb.2.2) (E_bd w1 rfl))
    · rw [if_neg k0] at ec ⊢
      have hc : 7 ≤ cmpc (kT md T) q1 ∧ cmpc (kT md T) q1 ≤ 9 := by
        revert k0; unfold cmpc
        (repeat' split) <;> omega
      have hk := okK_T q1 (cmpc_ne k0)
      have hk2 : q1 < nxT T q1 := hk.2.1
      obtain ⟨V2, t1, t2, t3⟩ := k6_take hG a3'.1 a3'.2.1
      have h2 := a3'.nx6 ho t2 (by omega) t3
      obtain ⟨V3, v3, b1, b2, b3⟩ := r3 V2 _ _ h2
      have j : ∀ V' v, bd (F_X3_write G (gR G r 7) (cmpc (kT md T) q1 + 3) 0 V3) (fun V37 v38 => some (V37, 0)) = some (V', v) → bd (F_X6_comparison G r V1) (fun V26 v27 =>
      gd (rg v27) <|
      if v27 = (-1) then (bd (F_X6_here G r V26) fun V40 v41 =>
      bd (F_X6_fail G r 1 v41 V40) fun V43 v44 =>
      F_X6_readFact_J126 (FR G r f) G r (o : Int) v27 V43) else (F_X6_readFact_J126 (FR G r f) G r (o : Int) v27 V26)) = some (V', v) := by
        intro V' v e
        refine E_bd ec (E_gd ⟨by omega, by omega⟩ (E_if (fun q => by omega) (fun _ => ?_)))
        unfold F_X6_readFact_J126
        exact E_bd t1 (E_bd b1 e)
      have b3r : cQ G V3 r T md (cs ++ c1) (rd (kT md T) 64 3 o (knx (kT md T) q1)) := b3
      cases hR2 : rd (kT md T) 64 3 o (knx (kT md T) q1) with
      | inl e =>
        rw [hR2] at b3r
        obtain ⟨V4, w1, w2, w3⟩ := cX.wr hG ho (b3r : cX G V3 r T md e) (s := cmpc (kT md T) q1 + 3) (w := 0) (by decide) (Or.inl (by omega))
        exact ⟨V4, 0, fin V4 0 (j V4 0 (E_bd w1 rfl)), ((a2.trans t2.t7).trans b2).trans w2, w3⟩
      | inr y =>
        obtain ⟨c2, q2⟩ := y
        rw [hR2] at b3r
        have b3' : cF G V3 r T md q2 (cs ++ c1 ++ c2) := b3r
        have pr2 := pr64 hT hk.2.2 hR2
        have pr2' : c2.length + nxT T q1 ≤ q2 := pr2.2.2
        obtain ⟨V4, w1, w2, w3⟩ := cF.wr hG hT ho b3' (by rw [List.length_append, List.length_append]; omega) (s := cmpc (kT md T) q1 + 3) (w := 0) (v := cmpc (kT md T) q1) (by decide) (by omega) (by
          unfold encc
          rw [if_neg (by omega), if_neg (by omega), if_neg (by omega), if_neg (by omega), if_neg (by omega), if_neg (by omega), if_neg (by omega), if_neg (by omega), if_neg (by omega), if_neg (by omega), if_neg (by omega), if_neg (by omega), if_neg (by omega), if_neg (by omega)]
          omega)
        refine ⟨V4, 0, fin V4 0 (j V4 0 (E_bd w1 rfl)), ((a2.trans t2.t7).trans b2).trans w2, ?_⟩
        show cF G V4 r T md q2 (cs ++ (c1 ++ c2 ++ [cmpc (kT md T) q1]))
        rw [show cs ++ (c1 ++ c2 ++ [cmpc (kT md T) q1]) = cs ++ c1 ++ c2 ++ [cmpc (kT md T) q1] by simp]
        exact w3
end

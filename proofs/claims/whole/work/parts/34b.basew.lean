abbrev mW : Type := Nat × Nat × mG × mV
def sQ (G : mG) (i j v : Nat) : mG := (G.1, G.2.1, fun a b => if a = i ∧ b = j then some v else G.2.2 a b)
def qwi (W' : mW) (v : Int) : Nat → Nat → mG → mV → Option Value → Prop := fun a b g w u => a = W'.1 ∧ b = W'.2.1 ∧ g = W'.2.2.1 ∧ w = W'.2.2.2 ∧ u = some (.int (iI v))
def qwj (W' : mW) (v : Int) : Nat → Nat → mG → mV → Option Value → Prop := fun a b g w u => a = W'.1 ∧ b = W'.2.1 ∧ g = W'.2.2.1 ∧ w = W'.2.2.2 ∧ u = some (.long (lI v))
def qwv (W' : mW) (_ : Int) : Nat → Nat → mG → mV → Option Value → Prop := fun a b g w u => a = W'.1 ∧ b = W'.2.1 ∧ g = W'.2.2.1 ∧ w = W'.2.2.2 ∧ u = none
section
variable {X : mX} {d y pc nx : Nat} {L L' : mL} {st st' rest : List Value} {n z n' z' : Nat} {G G' : mG} {V V' : mV} {Q : Nat → Nat → mG → mV → Option Value → Prop}
theorem qwi_toR {W W' : mW} {as : List Value} {v : Int} (hL : a_ent (a_mx y) as = L) (h : T X d y 0 L [] W.1 W.2.1 W.2.2.1 W.2.2.2 (qwi W' v)) : Rn X d y as W.1 W.2.1 W.2.2.1 W.2.2.2 W'.1 W'.2.1 W'.2.2.1 W'.2.2.2 (some (.int (iI v))) := T.toR hL h
theorem qwj_toR {W W' : mW} {as : List Value} {v : Int} (hL : a_ent (a_mx y) as = L) (h : T X d y 0 L [] W.1 W.2.1 W.2.2.1 W.2.2.2 (qwj W' v)) : Rn X d y as W.1 W.2.1 W.2.2.1 W.2.2.2 W'.1 W'.2.1 W'.2.2.1 W'.2.2.2 (some (.long (lI v))) := T.toR hL h
theorem qwv_toR {W W' : mW} {as : List Value} {v : Int} (hL : a_ent (a_mx y) as = L) (h : T X d y 0 L [] W.1 W.2.1 W.2.2.1 W.2.2.2 (qwv W' v)) : Rn X d y as W.1 W.2.1 W.2.2.1 W.2.2.2 W'.1 W'.2.1 W'.2.2.1 W'.2.2.2 none := T.toR hL h
theorem qfw_i {W' : mW} {x v : Int} (h : some ((n, z, G, V), x) = some (W', v)) : qwi W' v n z G V (some (.int (iI x))) := by cases h; exact ⟨rfl, rfl, rfl, rfl, rfl⟩
theorem qfw_j {W' : mW} {x v : Int} (h : some ((n, z, G, V), x) = some (W', v)) : qwj W' v n z G V (some (.long (lI x))) := by cases h; exact ⟨rfl, rfl, rfl, rfl, rfl⟩
theorem qfw_v {W' : mW} {x v : Int} (h : some ((n, z, G, V), x) = some (W', v)) : qwv W' v n z G V none := by cases h; exact ⟨rfl, rfl, rfl, rfl, rfl⟩
theorem mk_nwq {q : Nat} : a_up (mk G V) n (.inl (3, q, .inr (.inr (.inr (.inr (fun _ => none)))))) = mk (zQ (nw G n (.inr (3, q))) n) V := by
  funext a
  by_cases ha : a = n
  · subst ha
    rw [a_upS]
    have ho : (zQ (nw G a (.inr (3, q))) a).1 a = .inr (3, q) := by simp [zQ, nw]
    have e : (zQ (nw G a (.inr (3, q))) a).2.2 a = fun _ => none := by funext j; simp [zQ]
    rw [mk_aq ho, e]
  · rw [a_upN ha]
    have e1 : (zQ (nw G n (.inr (3, q))) n).1 a = G.1 a := by simp [zQ, nw, ha]
    have e2 : (zQ (nw G n (.inr (3, q))) n).2.2 a = G.2.2 a := by funext j; simp [zQ, nw, ha]
    unfold mk
    rw [e1, e2]
    rfl
theorem k8_anew (hf : a_fetch y pc = some (.anewarray 4, nx)) (k : T X d y nx L (.ref n :: rest) (n + 1) (z + 20) (zQ (nw G n (.inr (3, 20))) n) V Q) : T X d y pc L (.int (iI 20) :: rest) n z G V Q := by
  refine T.step hf rfl rfl ?_ k
  have h1 : ¬ iI (20 : Int) < 0 := by decide
  have h2 : (iI (20 : Int)).toNatClampNeg = 20 := by decide
  unfold a_stp
  simp only [a_stk, a_lo, a_rd, a_wr, a_nw, h2]
  rw [if_pos ⟨h1, by decide⟩]
  simp only
  rw [mk_nwq]
theorem mk_sQ {i q j v : Nat} (ho : G.1 i = .inr (3, q)) : a_up (mk G V) i (.inl (3, q, .inr (.inr (.inr (.inr (va_up (G.2.2 i) j (some v))))))) = mk (sQ G i j v) V := by
  funext a
  by_cases ha : a = i
  · subst ha
    rw [a_upS]
    have e : (sQ G a j v).2.2 a = va_up (G.2.2 a) j (some v) := by funext b; simp [sQ, va_up]
    rw [mk_aq (G := sQ G a j v) ho, e]
  · rw [a_upN ha]
    have e2 : (sQ G i j v).2.2 a = G.2.2 a := by funext b; simp [sQ, ha]
    unfold mk
    rw [show (sQ G i j v).1 a = G.1 a from rfl, e2]
    rfl
theorem k8_aas {i q v : Nat} {j : Int} (hf : a_fetch y pc = some (.aastore, nx)) (ho : G.1 i = .inr (3, q)) (hv : G.1 v = .inl 4) (h0 : 0 ≤ j) (h1 : j < (q : Int)) (h2 : j ≤ 2147483647) (k : T X d y nx L rest n z (sQ G i j.toNat v) V Q) : T X d y pc L (.ref v :: .int (iI j) :: .ref i :: rest) n z G V Q := by
  refine t_w hf rfl rfl rfl rfl rfl ?_ k
  simp only [a_wr, mk_aq ho, mk_o hv]
  rw [if_pos (iI_vin h0 h1 h2), iI_cl ⟨by omega, h2⟩, mk_sQ ho]
theorem k8_lenX {L0 : Nat} {xs : Nat → Int32} (hf : a_fetch y pc = some (.arraylength, nx)) (k : T (some (L0, xs)) d y nx L (.int (iI (L0 : Int)) :: rest) n z G V Q) : T (some (L0, xs)) d y pc L (.retAddr 0 :: rest) n z G V Q := by
  refine t_r hf rfl rfl rfl rfl ?_ k
  simp only [a_rd]
  rw [iI_nat]
theorem k8_iaX {L0 : Nat} {xs : Nat → Int32} {j : Int} (hf : a_fetch y pc = some (.iaload, nx)) (h0 : 0 ≤ j) (h1 : j < (L0 : Int)) (h2 : j ≤ 2147483647) (k : T (some (L0, xs)) d y nx L (.int (iI (xs j.toNat).toInt) :: rest) n z G V Q) : T (some (L0, xs)) d y pc L (.int (iI j) :: .retAddr 0 :: rest) n z G V Q := by
  refine t_r hf rfl rfl rfl rfl ?_ k
  simp only [a_rd]
  rw [if_pos (iI_vin h0 h1 h2), iI_cl ⟨by omega, h2⟩, show iI (xs j.toNat).toInt = xs j.toNat from Int32.ofInt_toInt _]
theorem k8_clS {k : Nat} {y2 na d2 : Nat} {as rs : List Value} {mt : mT} {v : Option Value} (hf : a_fetch y pc = some (.invokevirtual y2, nx)) (hg : a_sg[y2]? = some (na, 1)) (hmt : a_mt[y2]? = some mt) (hc : mt.2.2.2.2 = 14) (hk : k = 1 ∨ k = 2) (hm : (a_lay as).length ≤ a_mx y2) (hl : rs.length = na) (ha : as = .retAddr k :: rs.reverse) (hr : a_rst rest = true) (hR : Rn X d2 y2 as n z G V n' z' G' V' v) (hd : d2 + 1 ≤ d) (kk : T X d y nx L (v.toList ++ rest) n' z' G' V' Q) : T X d y pc L (rs ++ .retAddr k :: rest) n z G V Q := by
  refine t_call hf rfl ?_ hm hR hd kk
  subst hl
  rcases hk with rfl | rfl
  · simp only [a_call, hg, hmt, List.drop_left, List.take_left]
    rw [if_pos ⟨hc, hr⟩, ha]
  · simp only [a_call, hg, hmt, List.drop_left, List.take_left]
    rw [if_pos ⟨hc, hr⟩, ha]
def slen (k : Nat) : Int := if k = 1 then 123 else 50
def stx (k : Nat) (i : Int) : Int := ((if k = 1 then a_tx else a_ty2).getD i.toNat 0).toInt
theorem eJ0_coder {k : Nat} (hk : k = 1 ∨ k = 2) : Rn X 0 298 [.retAddr k] n z G V n z G V (some (.int (iI 0))) := by
  refine T.toR (L := [some (.retAddr k)]) rfl ?_
  refine t_s fJ0_coder_7d493_0 rfl rfl rfl ?_
  refine k9_if_eq (a := 1) fJ0_coder_7d493_3 rfl ⟨by decide, by decide⟩ (fun h => by omega) (fun h => ?_)
  refine t_l fJ0_coder_7d493_6 rfl rfl rfl rfl ?_
  refine t_s fJ0_coder_7d493_7 rfl rfl (st' := [.int (iI 0)]) (by rcases hk with rfl | rfl <;> rfl) ?_
  refine k9_goto fJ0_coder_7d493_10 rfl ?_
  exact t_ret fJ0_coder_7d493_14 (v := some (.int (iI 0))) (by rfl) ⟨rfl, rfl, rfl, rfl, rfl⟩
theorem eJ0_isLatin1 {k : Nat} (hk : k = 1 ∨ k = 2) : Rn X 0 299 [.retAddr k] n z G V n z G V (some (.int (iI 1))) := by
  refine T.toR (L := [some (.retAddr k)]) rfl ?_
  refine t_s fJ0_isLatin1_aae02_0 rfl rfl rfl ?_
  refine k9_if_eq (a := 1) fJ0_isLatin1_aae02_3 rfl ⟨by decide, by decide⟩ (fun h => by omega) (fun h => ?_)
  refine t_l fJ0_isLatin1_aae02_6 rfl rfl rfl rfl ?_
  refine t_s fJ0_isLatin1_aae02_7 rfl rfl (st' := [.int (iI 0)]) (by rcases hk with rfl | rfl <;> rfl) ?_
  refine k9_if_ne (a := 0) fJ0_isLatin1_aae02_10 rfl ⟨by decide, by decide⟩ (fun h => by omega) (fun h => ?_)
  refine t_s fJ0_isLatin1_aae02_13 rfl rfl rfl ?_
  refine k9_goto fJ0_isLatin1_aae02_14 rfl ?_
  exact t_ret fJ0_isLatin1_aae02_18 (v := some (.int (iI 1))) (by rfl) ⟨rfl, rfl, rfl, rfl, rfl⟩
theorem eJ0_length {k : Nat} (hk : k = 1 ∨ k = 2) : Rn X 1 296 [.retAddr k] n z G V n z G V (some (.int (iI (slen k)))) := by
  refine T.toR (L := [some (.retAddr k)]) rfl ?_
  refine t_l fJ0_length_8abf5_0 rfl rfl rfl rfl ?_
  refine t_s fJ0_length_8abf5_1 rfl rfl (st' := [.retAddr (k + 10)]) (by rcases hk with rfl | rfl <;> rfl) ?_
  refine t_r fJ0_length_8abf5_4 rfl rfl rfl rfl (st' := [.int (iI (slen k))]) (by rcases hk with rfl | rfl <;> rfl) ?_
  refine t_l fJ0_length_8abf5_5 rfl rfl rfl rfl ?_
  refine k8_clS (na := 0) (as := [.retAddr k]) (rs := []) fJ0_length_8abf5_6 (by rfl) (by rfl) (by rfl) hk (by decide +kernel : 1 ≤ a_mx 298) rfl rfl rfl (eJ0_coder hk) (by decide) ?_
  refine k8_ishr (b := 0) fJ0_length_8abf5_9 (by rcases hk with rfl | rfl <;> decide) (by decide) ?_
  rw [show shr (slen k) 0 = slen k by unfold shr; simp]
  exact t_ret fJ0_length_8abf5_10 rJ0_length_8abf5 ⟨rfl, rfl, rfl, rfl, rfl⟩
theorem eJ3_check {i n0 : Int} {x2 : Value} (hx : a_one x2 = true) (hx2 : ∃ q, x2 = .retAddr q) (hi : 0 ≤ i ∧ i < n0) (hn : n0 ≤ 1000) : Rn X 0 302 [.int (iI i), .int (iI n0), x2] n z G V n z G V (some (.int (iI i))) := by
  obtain ⟨q, rfl⟩ := hx2
  refine T.toR (L := [some (.int (iI i)), some (.int (iI n0)), some (.retAddr q)]) rfl ?_
  refine t_l fJ3_checkIndex_8e157_0 rfl rfl rfl rfl ?_
  refine k9_if_lt fJ3_checkIndex_8e157_1 rfl ⟨by omega, by omega⟩ (fun h => by omega) (fun h => ?_)
  refine t_l fJ3_checkIndex_8e157_4 rfl rfl rfl rfl ?_
  refine t_l fJ3_checkIndex_8e157_5 rfl rfl rfl rfl ?_
  refine k9_ic_lt fJ3_checkIndex_8e157_6 rfl ⟨by omega, by omega⟩ ⟨by omega, by omega⟩ (fun h => ?_) (fun h => by omega)
  refine t_l fJ3_checkIndex_8e157_16 rfl rfl rfl rfl ?_
  exact t_ret fJ3_checkIndex_8e157_17 rJ3_checkIndex_8e157 ⟨rfl, rfl, rfl, rfl, rfl⟩
theorem eJ0_check {i n0 : Int} (hi : 0 ≤ i ∧ i < n0) (hn : n0 ≤ 1000) : Rn X 1 300 [.int (iI i), .int (iI n0)] n z G V n z G V none := by
  refine T.toR (L := [some (.int (iI i)), some (.int (iI n0))]) rfl ?_
  refine t_l fJ0_checkIndex_df160_0 rfl rfl rfl rfl ?_
  refine t_l fJ0_checkIndex_df160_1 rfl rfl rfl rfl ?_
  refine t_s fJ0_checkIndex_df160_2 rfl rfl rfl ?_
  refine kcJ3_checkIndex_8e157 fJ0_checkIndex_df160_5 rfl rfl (eJ3_check rfl ⟨20, rfl⟩ hi hn) (by decide) ?_
  refine t_s fJ0_checkIndex_df160_8 rfl rfl rfl ?_
  exact t_ret fJ0_checkIndex_df160_9 rJ0_checkIndex_df160 ⟨rfl, rfl, rfl, rfl, rfl⟩
def chr (x : Int32) : Int32 := ((x &&& Int32.ofInt 255).toUInt32 % 65536).toInt32
theorem ch_all1 : ∀ q : Fin 123, chr (a_tx.getD q.val 0) = iI (stx 1 (q.val : Int)) ∧ a_ret 301 .ireturn [.int (iI (stx 1 (q.val : Int)))] = some (some (.int (iI (stx 1 (q.val : Int))))) ∧ a_ret 297 .ireturn [.int (iI (stx 1 (q.val : Int)))] = some (some (.int (iI (stx 1 (q.val : Int))))) := by decide +kernel
theorem ch_all2 : ∀ q : Fin 50, chr (a_ty2.getD q.val 0) = iI (stx 2 (q.val : Int)) ∧ a_ret 301 .ireturn [.int (iI (stx 2 (q.val : Int)))] = some (some (.int (iI (stx 2 (q.val : Int))))) ∧ a_ret 297 .ireturn [.int (iI (stx 2 (q.val : Int)))] = some (some (.int (iI (stx 2 (q.val : Int))))) := by decide +kernel
theorem ch_all {k : Nat} (hk : k = 1 ∨ k = 2) {i : Int} (h : 0 ≤ i ∧ i < slen k) : chr ((if k = 1 then a_tx else a_ty2).getD i.toNat 0) = iI (stx k i) ∧ a_ret 301 .ireturn [.int (iI (stx k i))] = some (some (.int (iI (stx k i)))) ∧ a_ret 297 .ireturn [.int (iI (stx k i))] = some (some (.int (iI (stx k i)))) := by
  rcases hk with rfl | rfl
  · have e := ch_all1 ⟨i.toNat, by have := h.2; simp [slen] at this; omega⟩
    simp only at e
    rw [show ((i.toNat : Nat) : Int) = i by omega] at e
    exact e
  · have e := ch_all2 ⟨i.toNat, by have := h.2; simp [slen] at this; omega⟩
    simp only at e
    rw [show ((i.toNat : Nat) : Int) = i by omega] at e
    exact e
theorem eJ1_charAt {k : Nat} (hk : k = 1 ∨ k = 2) {i : Int} (h : 0 ≤ i ∧ i < slen k) : Rn X 2 301 [.retAddr (k + 10), .int (iI i)] n z G V n z G V (some (.int (iI (stx k i)))) := by
  have hs : slen k ≤ 123 := by unfold slen; split <;> omega
  obtain ⟨c1, c2, c3⟩ := ch_all hk h
  refine T.toR (L := [some (.retAddr (k + 10)), some (.int (iI i))]) rfl ?_
  refine t_l fJ1_charAt_3b067_0 rfl rfl rfl rfl ?_
  refine t_l fJ1_charAt_3b067_1 rfl rfl rfl rfl ?_
  refine t_r fJ1_charAt_3b067_2 rfl rfl rfl rfl (st' := [.int (iI (slen k)), .int (iI i)]) (by rcases hk with rfl | rfl <;> rfl) ?_
  refine kcJ0_checkIndex_df160 fJ1_charAt_3b067_3 rfl (eJ0_check h (by omega)) (by decide) ?_
  refine t_l fJ1_charAt_3b067_6 rfl rfl rfl rfl ?_
  refine t_l fJ1_charAt_3b067_7 rfl rfl rfl rfl ?_
  refine t_r fJ1_charAt_3b067_8 rfl rfl rfl rfl (st' := [.int ((if k = 1 then a_tx else a_ty2).getD i.toNat 0)]) (by
    rcases hk with rfl | rfl
    · simp only [a_rd]
      rw [if_pos (iI_vin (n := 123) h.1 (by have := h.2; simp [slen] at this; omega) (by omega)), iI_cl ⟨by omega, by omega⟩]; rfl
    · simp only [a_rd]
      rw [if_pos (iI_vin (n := 50) h.1 (by have := h.2; simp [slen] at this; omega) (by omega)), iI_cl ⟨by omega, by omega⟩]; rfl) ?_
  refine t_s fJ1_charAt_3b067_9 rfl rfl rfl ?_
  refine t_s fJ1_charAt_3b067_12 rfl rfl rfl ?_
  refine t_s fJ1_charAt_3b067_13 rfl rfl (st' := [.int (iI (stx k i))]) (by rw [← c1]; rfl) ?_
  exact t_ret fJ1_charAt_3b067_14 c2 ⟨rfl, rfl, rfl, rfl, rfl⟩
theorem eJ0_charAt {k : Nat} (hk : k = 1 ∨ k = 2) {i : Int} (h : 0 ≤ i ∧ i < slen k) : Rn X 3 297 [.retAddr k, .int (iI i)] n z G V n z G V (some (.int (iI (stx k i)))) := by
  have hs : slen k ≤ 123 := by unfold slen; split <;> omega
  obtain ⟨c1, c2, c3⟩ := ch_all hk h
  refine T.toR (L := [some (.retAddr k), some (.int (iI i))]) rfl ?_
  refine t_l fJ0_charAt_5068e_0 rfl rfl rfl rfl ?_
  refine k8_clS (na := 0) (as := [.retAddr k]) (rs := []) fJ0_charAt_5068e_1 (by rfl) (by rfl) (by rfl) hk (by decide +kernel : 1 ≤ a_mx 299) rfl rfl rfl (eJ0_isLatin1 hk) (by decide) ?_
  refine k9_if_eq (a := 1) fJ0_charAt_5068e_4 rfl ⟨by decide, by decide⟩ (fun h => by omega) (fun h => ?_)
  refine t_l fJ0_charAt_5068e_7 rfl rfl rfl rfl ?_
  refine t_s fJ0_charAt_5068e_8 rfl rfl (st' := [.retAddr (k + 10)]) (by rcases hk with rfl | rfl <;> rfl) ?_
  refine t_l fJ0_charAt_5068e_11 rfl rfl rfl rfl ?_
  refine kcJ1_charAt_3b067 fJ0_charAt_5068e_12 rfl rfl (eJ1_charAt hk (by assumption)) (by decide) ?_
  exact t_ret fJ0_charAt_5068e_15 c3 ⟨rfl, rfl, rfl, rfl, rfl⟩
theorem k8_slen {k d2 : Nat} (hf : a_fetch y pc = some (.invokevirtual 296, nx)) (hk : k = 1 ∨ k = 2) (hR : Rn X d2 296 [.retAddr k] n z G V n z G V (some (.int (iI (slen k))))) (hd : d2 + 1 ≤ d) (hr : a_rst rest = true) (kk : T X d y nx L (.int (iI (slen k)) :: rest) n z G V Q) : T X d y pc L (.retAddr k :: rest) n z G V Q :=
  k8_clS (na := 0) (as := [.retAddr k]) (rs := []) hf (by rfl) (by rfl) (by rfl) hk (by decide +kernel : 1 ≤ a_mx 296) rfl rfl hr hR hd kk
theorem k8_char {k d2 : Nat} {i : Int} (hf : a_fetch y pc = some (.invokevirtual 297, nx)) (hk : k = 1 ∨ k = 2) (hR : Rn X d2 297 [.retAddr k, .int (iI i)] n z G V n z G V (some (.int (iI (stx k i))))) (hd : d2 + 1 ≤ d) (hr : a_rst rest = true) (kk : T X d y nx L (.int (iI (stx k i)) :: rest) n z G V Q) : T X d y pc L (.int (iI i) :: .retAddr k :: rest) n z G V Q :=
  k8_clS (na := 1) (as := [.retAddr k, .int (iI i)]) (rs := [.int (iI i)]) hf (by rfl) (by rfl) (by rfl) hk (by decide +kernel : 2 ≤ a_mx 297) rfl rfl hr hR hd kk
end

/-! duties (class) -/
theorem gd_in {L : List (Int × Int × Int)} {k : Nat} (h : k < L.length) : L.getD k d0 ∈ L := by
  rw [List.getD_eq_getElem?_getD, List.getElem?_eq_getElem h]
  exact List.getElem_mem h
theorem gd_of {L : List (Int × Int × Int)} {d : Int × Int × Int} (h : d ∈ L) : ∃ k, k < L.length ∧ L.getD k d0 = d := by
  obtain ⟨k, hk, e⟩ := List.getElem_of_mem h
  refine ⟨k, hk, ?_⟩
  rw [List.getD_eq_getElem?_getD, List.getElem?_eq_getElem hk]
  exact e
theorem srt_lt {D : List (Int × Int × Int)} {d : Int × Int × Int} {n : Nat} (h : d ∈ srt n D) : d.1 < (n : Int) := by
  unfold srt at h
  obtain ⟨l, h1, h2⟩ := List.mem_flatMap.mp h
  have a := List.mem_range.mp h1
  have b := (List.mem_filter.mp h2).2
  simp at b
  omega
theorem srt_lo {D : List (Int × Int × Int)} {d : Int × Int × Int} : ∀ n : Nat, (n : Int) ≤ d.1 → srt n (D ++ [d]) = srt n D
  | 0, _ => rfl
  | n + 1, h => by
    rw [srt_succ, srt_succ, srt_lo n (by omega), List.filter_append]
    have : [d].filter (fun d => decide (d.1 = (n : Int))) = [] := by
      rw [List.filter_eq_nil_iff]
      intro e he
      rw [List.mem_singleton] at he
      subst he
      simp; omega
    rw [this, List.append_nil]
theorem srt_ins {D : List (Int × Int × Int)} {d : Int × Int × Int} {l : Nat} (hl : d.1 = (l : Int)) : ∀ k : Nat, ∃ B, srt (l + 1 + k) D = srt (l + 1) D ++ B ∧ srt (l + 1 + k) (D ++ [d]) = srt (l + 1) D ++ d :: B ∧ ∀ e ∈ B, d.1 < e.1
  | 0 => by
    refine ⟨[], by simp, ?_, fun e he => by cases he⟩
    show srt (l + 1) (D ++ [d]) = _
    rw [srt_succ, srt_succ, srt_lo l (by omega), List.filter_append]
    have : [d].filter (fun d => decide (d.1 = (l : Int))) = [d] := by
      rw [List.filter_eq_self]
      intro e he
      rw [List.mem_singleton] at he
      subst he
      simp; omega
    rw [this, List.append_assoc]
  | k + 1 => by
    obtain ⟨B, b1, b2, b3⟩ := srt_ins hl k
    refine ⟨B ++ D.filter (fun d => decide (d.1 = ((l + 1 + k : Nat) : Int))), ?_, ?_, ?_⟩
    · show srt ((l + 1 + k) + 1) D = _
      rw [srt_succ, b1, List.append_assoc]
    · show srt ((l + 1 + k) + 1) (D ++ [d]) = _
      rw [srt_succ, b2, List.filter_append]
      have : [d].filter (fun d => decide (d.1 = ((l + 1 + k : Nat) : Int))) = [] := by
        rw [List.filter_eq_nil_iff]
        intro e he
        rw [List.mem_singleton] at he
        subst he
        simp; omega
      rw [this, List.append_nil, List.append_assoc]
      rfl
    · intro e he
      rcases List.mem_append.mp he with y | y
      · exact b3 e y
      · have z := (List.mem_filter.mp y).2
        simp at z
        omega
theorem gd_ins {A B : List (Int × Int × Int)} {d : Int × Int × Int} (k : Nat) : (A ++ d :: B).getD k d0 = if k < A.length then (A ++ B).getD k d0 else if k = A.length then d else (A ++ B).getD (k - 1) d0 := by
  rw [List.getD_eq_getElem?_getD, List.getD_eq_getElem?_getD, List.getD_eq_getElem?_getD]
  by_cases h : k < A.length
  · rw [if_pos h, List.getElem?_append_left h, List.getElem?_append_left h]
  · rw [if_neg h]
    by_cases e : k = A.length
    · rw [if_pos e, e, List.getElem?_append_right (Nat.le_refl _), Nat.sub_self]; rfl
    · rw [if_neg e, List.getElem?_append_right (by omega), List.getElem?_append_right (by omega)]
      obtain ⟨i, hi⟩ : ∃ i, k - A.length = i + 1 := ⟨k - A.length - 1, by omega⟩
      rw [hi, show k - 1 - A.length = i by omega, List.getElem?_cons_succ]
section
variable {G : mG} {V : mV} {r c : Nat} {n : Int} {f : Int → Int}
theorem rw_ins {cap : Nat} (hr : is7 G r) (hq : qG G (r + 1) = cap) (hcap : cap ≤ 1000) (h : rw' V r n f) (hn : 0 ≤ n ∧ n < (cap : Int)) {x v : Int} (hx : 0 ≤ x ∧ x ≤ n) {g : Int → Int} (hg : ∀ j, 0 ≤ j → j ≤ n → g j = if j < x then f j else if j = x then v else f (j - 1)) :
    ∃ V', F_X7_insert G r x v V = some (V', 0) ∧ fr (fun i => i = r ∨ i = r + 1) V V' ∧ rw' V' r (n + 1) g := by
  obtain ⟨V1, e1, k1, w1⟩ := rw_add (v := v) (f := uf f n v) hr hq (rw_cg h (fun j a b => uf_o (by omega))) hn uf_e
  have key : ∀ (w : Nat) (j : Int) (W : mV) (fu : Nat), j = x + w → j ≤ n → w < fu → fr (fun i => i = r ∨ i = r + 1) V W → gI W r 1 = n + 1 → (∀ i, 0 ≤ i → i < j → rc W r i = f i) → (∀ i, j < i → i ≤ n → rc W r i = f (i - 1)) → ∃ U, lp (fun (s : Int) V => B_X7_insert_12 G r x v s V) fu j W = some (U, 1, x) ∧ fr (fun i => i = r ∨ i = r + 1) V U ∧ gI U r 1 = n + 1 ∧ (∀ i, 0 ≤ i → i < x → rc U r i = f i) ∧ (∀ i, x < i → i ≤ n → rc U r i = f (i - 1)) := by
    intro w
    induction w with
    | zero =>
      intro j W fu hj hjn hf k1 k2 k3 k4
      have jx : j = x := by omega
      subst jx
      refine ⟨W, lp_stop (q := (1, j)) ?_ Nat.one_ne_zero hf, k1, k2, k3, k4⟩
      show B_X7_insert_12 G r j v j W = _
      unfold B_X7_insert_12
      exact E_gd ⟨by omega, by omega⟩ (E_gd ⟨by omega, by omega⟩ (E_if (fun _ => rfl) (fun y => absurd (Int.le_refl _) y)))
    | succ w ih =>
      intro j W fu hj hjn hf k1 k2 k3 k4
      obtain ⟨fu, rfl⟩ : ∃ i, fu = i + 1 := ⟨fu - 1, by omega⟩
      have hW : rw' W r (n + 1) (rc W r) := ⟨k2, fun _ _ _ => rfl⟩
      have g1 := rw_get (k := j - 1) hr hq hW (by omega) ⟨by omega, by omega⟩
      rw [k3 _ (by omega) (by omega)] at g1
      obtain ⟨g2, g3⟩ := rw_put (k := j) (v := f (j - 1)) hr hq hW (by omega) ⟨by omega, by omega⟩
      have st : B_X7_insert_12 G r x v j W = some (sA W (r + 1) j.toNat (f (j - 1)), 0, j - 1) := by
        unfold B_X7_insert_12
        exact E_gd ⟨by omega, by omega⟩ (E_gd ⟨by omega, by omega⟩ (E_if (fun y => by omega) (fun _ => E_bd g1 (E_bd g2 (E_lt (E_so rfl (Prod.ext rfl (by show j + -1 = j - 1; omega))))))))
      rw [lp_more st]
      refine ih (j - 1) _ fu (by omega) (by omega) (by omega) (k1.trans (fr_sA (Or.inr rfl))) g3.1 (fun i a b => ?_) (fun i a b => ?_)
      · rw [g3.2 i a (by omega), uf_o (by omega)]; exact k3 i a (by omega)
      · rw [g3.2 i (by omega) (by omega)]
        by_cases e : i = j
        · rw [e, uf_e]
        · rw [uf_o e]; exact k4 i (by omega) b
  obtain ⟨U, e2, k2, u1, u2, u3⟩ := key (n - x).toNat n V1 FU (by omega) (Int.le_refl _) (by unfold FU; omega) k1 w1.1 (fun i a b => by rw [w1.2 i a (by omega), uf_o (by omega)]) (fun i a b => by omega)
  have hU : rw' U r (n + 1) (rc U r) := ⟨u1, fun _ _ _ => rfl⟩
  obtain ⟨e3, w3⟩ := rw_put (k := x) (v := v) hr hq hU (by omega) ⟨by omega, by omega⟩
  refine ⟨_, ?_, k2.trans (fr_sA (Or.inr rfl)), w3.1, fun j a b => ?_⟩
  · unfold F_X7_insert
    refine E_bd e1 (E_lt ?_)
    rw [w1.1, show n + 1 - 1 = n by omega]
    exact E_bd e2 (E_bd e3 rfl)
  · rw [w3.2 j a b, hg j a (by omega)]
    by_cases e : j = x
    · rw [e, uf_e, if_neg (by omega), if_pos rfl]
    · rw [uf_o e]
      by_cases y : j < x
      · rw [if_pos y]; exact u2 j a y
      · rw [if_neg y, if_neg e]; exact u3 j (by omega) (by omega)
theorem c_hasDuty (hc : is1 G c) {L : List (Int × Int × Int)} (hl : L.length ≤ 24) (hD : vD V c L) {t n : Int} (hn : n ≤ 10 ∧ t ≤ 10) (ho : ∀ d ∈ L, okD n t d) {x1 x2 x3 : Int} (h1 : rg x1) (h2 : rg x2) (h3 : rg x3) : F_X1_hasDuty G c x1 x2 x3 V = some (V, if (x1, x2, x3) ∈ L then 1 else 0) := by
  have key : ∀ (w j : Nat) (fu : Nat), j + w = L.length → w < fu → ∃ q : Nat × Int, lp (fun (s : Int) V => B_X1_hasDuty_3 G c x1 x2 x3 s V) fu (j : Int) V = some (V, q) ∧ ((q.1 = 1 ∧ (x1, x2, x3) ∈ L) ∨ (q.1 = 2 ∧ ∀ i, j ≤ i → i < L.length → L.getD i d0 ≠ (x1, x2, x3))) := by
    intro w
    induction w with
    | zero =>
      intro j fu hj hf
      refine ⟨(2, (j : Int)), lp_stop ?_ (by decide : (2 : Nat) ≠ 0) hf, Or.inr ⟨rfl, fun i a b => by omega⟩⟩
      show B_X1_hasDuty_3 G c x1 x2 x3 (j : Int) V = _
      unfold B_X1_hasDuty_3
      refine E_bd p7_size ?_
      rw [hD.1.1]
      exact E_gd ⟨by omega, by omega⟩ (E_gd ⟨by omega, by omega⟩ (E_if (fun _ => rfl) (fun y => by omega)))
    | succ w ih =>
      intro j fu hj hf
      obtain ⟨fu, rfl⟩ : ∃ i, fu = i + 1 := ⟨fu - 1, by omega⟩
      have hm := gd_in (L := L) (k := j) (by omega)
      obtain ⟨b1, b2, b3⟩ := ho _ hm
      have a1 := rw_get (k := (j : Int)) (s1_7s hc) (s1_7c hc) hD.1 (by omega) ⟨by omega, by omega⟩
      have a2 := rw_get (k := (j : Int)) (s1_8s hc) (s1_8c hc) hD.2.1 (by omega) ⟨by omega, by omega⟩
      have a3 := rw_get (k := (j : Int)) (s1_9s hc) (s1_9c hc) hD.2.2 (by omega) ⟨by omega, by omega⟩
      rw [Int.toNat_natCast] at a1 a2 a3
      have es : (j : Int) + 1 = ((j + 1 : Nat) : Int) := by omega
      have pre : ∀ r, (if (L.getD j d0).1 = x1 then (bd (F_X7_get G (c + 17) (j : Int) V) fun V23 v24 =>
  gd (rg v24) <|
  gd (rg x2) <|
  if v24 = x2 then (F_X1_hasDuty_J46_3 G c x1 x2 x3 (j : Int) 1 V23) else (F_X1_hasDuty_J45_3 G c x1 x2 x3 (j : Int) V23)) else (F_X1_hasDuty_J45_3 G c x1 x2 x3 (j : Int) V)) = r → B_X1_hasDuty_3 G c x1 x2 x3 (j : Int) V = r := by
        intro r e
        unfold B_X1_hasDuty_3
        refine E_bd p7_size ?_
        rw [hD.1.1]
        exact E_gd ⟨by omega, by omega⟩ (E_gd ⟨by omega, by omega⟩ (E_if (fun y => by omega) (fun _ => E_bd a1 (E_gd ⟨by omega, by omega⟩ (E_gd h1 e)))))
      have no : F_X1_hasDuty_J45_3 G c x1 x2 x3 (j : Int) V = some (V, 0, ((j + 1 : Nat) : Int)) := by
        unfold F_X1_hasDuty_J45_3 F_X1_hasDuty_J46_3
        exact E_gd (by decide) (E_if (fun _ => E_lt (E_so rfl (Prod.ext rfl es))) (fun y => absurd rfl y))
      by_cases e : L.getD j d0 = (x1, x2, x3)
      · refine ⟨(1, (j : Int)), lp_stop (pre _ ?_) Nat.one_ne_zero (by omega), Or.inl ⟨rfl, by rw [← e]; exact hm⟩⟩
        rw [if_pos (by rw [e])]
        refine E_bd a2 (E_gd ⟨by omega, by omega⟩ (E_gd h2 (E_if (fun _ => ?_) (fun y => absurd (by rw [e]) y))))
        unfold F_X1_hasDuty_J46_3
        exact E_gd (by decide) (E_if (fun y => absurd y (by decide)) (fun _ => E_bd a3 (E_gd ⟨by omega, by omega⟩ (E_gd h3 (E_if (fun _ => rfl) (fun y => absurd (by rw [e]) y))))))
      · obtain ⟨q, q1, q2⟩ := ih (j + 1) fu (by omega) (by omega)
        refine ⟨q, ?_, ?_⟩
        · rw [← q1]
          refine lp_more (pre _ (E_if (fun y1 => E_bd a2 (E_gd ⟨by omega, by omega⟩ (E_gd h2 (E_if (fun y2 => ?_) (fun _ => no))))) (fun _ => no)))
          unfold F_X1_hasDuty_J46_3
          exact E_gd (by decide) (E_if (fun y => absurd y (by decide)) (fun _ => E_bd a3 (E_gd ⟨by omega, by omega⟩ (E_gd h3 (E_if (fun y3 => absurd (Prod.ext y1 (Prod.ext y2 y3)) e) (fun _ => E_lt (E_so rfl (Prod.ext rfl es))))))))
        · rcases q2 with y | ⟨y1, y2⟩
          · exact Or.inl y
          · refine Or.inr ⟨y1, fun i a b => ?_⟩
            by_cases z : i = j
            · rw [z]; exact e
            · exact y2 i (by omega) b
  obtain ⟨q, q1, q2⟩ := key L.length 0 FU (by omega) (by unfold FU; omega)
  unfold F_X1_hasDuty
  refine E_bd q1 ?_
  rcases q2 with ⟨a, b⟩ | ⟨a, b⟩
  · rw [if_pos a, if_pos b]
  · rw [if_neg (by omega), if_neg]
    intro hm
    obtain ⟨k, k1, k2⟩ := gd_of hm
    exact b k (by omega) k1 k2
/-- a duty more -/
theorem c_addDuty (hc : is1 G c) {A B : List (Int × Int × Int)} (hl : (A ++ B).length < 24) (hD : vD V c (A ++ B)) {t n : Int} (hn : n ≤ 10 ∧ t ≤ 10) (ho : ∀ d ∈ A ++ B, okD n t d) {d : Int × Int × Int} (hd : okD n t d) (hA : ∀ e ∈ A, e.1 ≤ d.1) (hB : ∀ e ∈ B, d.1 < e.1) :
    ∃ V', F_X1_addDuty G c d.1 d.2.1 d.2.2 V = some (V', 0) ∧ fr (fun i => c + 15 ≤ i ∧ i ≤ c + 20) V V' ∧ vD V' c (A ++ d :: B) := by
  have hAB : (A ++ B).length = A.length + B.length := List.length_append
  have hAdB : (A ++ d :: B).length = A.length + B.length + 1 := by rw [List.length_append, List.length_cons]; omega
  have key : ∀ (w j : Nat) (fu : Nat), j + w = (A ++ B).length → w < fu → lp (fun (s : Int × Int) V => B_X1_addDuty_6 G c d.1 d.2.1 d.2.2 s.1 s.2 V) fu (((min j A.length : Nat) : Int), (j : Int)) V = some (V, 1, ((A.length : Nat) : Int), (((A ++ B).length : Nat) : Int)) := by
    intro w
    induction w with
    | zero =>
      intro j fu hj hf
      have e1 : j = (A ++ B).length := by omega
      have e2 : min j A.length = A.length := by omega
      rw [e2, e1]
      refine lp_stop (q := (1, ((A.length : Nat) : Int), (((A ++ B).length : Nat) : Int))) ?_ Nat.one_ne_zero hf
      show B_X1_addDuty_6 G c d.1 d.2.1 d.2.2 ((A.length : Nat) : Int) (((A ++ B).length : Nat) : Int) V = _
      unfold B_X1_addDuty_6
      refine E_bd p7_size ?_
      rw [hD.1.1]
      exact E_gd ⟨by omega, by omega⟩ (E_gd ⟨by omega, by omega⟩ (E_if (fun _ => rfl) (fun y => absurd (Int.le_refl _) y)))
    | succ w ih =>
      intro j fu hj hf
      obtain ⟨fu, rfl⟩ : ∃ i, fu = i + 1 := ⟨fu - 1, by omega⟩
      have hm := gd_in (L := A ++ B) (k := j) (by omega)
      obtain ⟨b1, b2, b3⟩ := ho _ hm
      have a1 := rw_get (k := (j : Int)) (s1_7s hc) (s1_7c hc) hD.1 (by omega) ⟨by omega, by omega⟩
      rw [Int.toNat_natCast] at a1
      rw [← ih (j + 1) fu (by omega) (by omega)]
      refine lp_more ?_
      show B_X1_addDuty_6 G c d.1 d.2.1 d.2.2 _ (j : Int) V = _
      have hd1 := hd.1
      unfold B_X1_addDuty_6
      refine E_bd p7_size ?_
      rw [hD.1.1]
      have es : (j : Int) + 1 = ((j + 1 : Nat) : Int) := by omega
      refine E_gd ⟨by omega, by omega⟩ (E_gd ⟨by omega, by omega⟩ (E_if (fun y => by omega) (fun _ => E_bd a1 (E_gd ⟨by omega, by omega⟩ (E_gd ⟨by omega, by omega⟩ (E_if (fun y => E_lt ?_) (fun y => E_lt (E_lt ?_))))))))
      · have hj : A.length ≤ j := by
          refine Classical.byContradiction (fun z => ?_)
          have : (A ++ B).getD j d0 = A.getD j d0 := by
            rw [List.getD_eq_getElem?_getD, List.getD_eq_getElem?_getD, List.getElem?_append_left (by omega)]
          rw [this] at y
          have := hA _ (gd_in (L := A) (k := j) (by omega))
          omega
        rw [es, show min (j + 1) A.length = min j A.length by omega]
      · have hj : j < A.length := by
          refine Classical.byContradiction (fun z => ?_)
          have : (A ++ B).getD j d0 = B.getD (j - A.length) d0 := by
            rw [List.getD_eq_getElem?_getD, List.getD_eq_getElem?_getD, List.getElem?_append_right (by omega)]
          rw [this] at y
          have := hB _ (gd_in (L := B) (k := j - A.length) (by omega))
          omega
        rw [es, show min (j + 1) A.length = j + 1 by omega]
  have e0 := key (A ++ B).length 0 FU (by omega) (by unfold FU; omega)
  rw [show min 0 A.length = 0 by omega] at e0
  have gg : ∀ (h : (Int × Int × Int) → Int) (j : Int), 0 ≤ j → j ≤ ((A ++ B).length : Int) → h ((A ++ d :: B).getD j.toNat d0) = if j < (A.length : Int) then h ((A ++ B).getD j.toNat d0) else if j = (A.length : Int) then h d else h ((A ++ B).getD (j - 1).toNat d0) := by
    intro h j a b
    rw [gd_ins]
    by_cases y : j < (A.length : Int)
    · rw [if_pos y, if_pos (by omega)]
    · rw [if_neg y, if_neg (by omega)]
      by_cases z : j = (A.length : Int)
      · rw [if_pos z, if_pos (by omega)]
      · rw [if_neg z, if_neg (by omega), show j.toNat - 1 = (j - 1).toNat by omega]
  obtain ⟨V1, e1, k1, w1⟩ := rw_ins (v := d.1) (x := (A.length : Int)) (g := fun k => ((A ++ d :: B).getD k.toNat d0).1) (s1_7s hc) (s1_7c hc) (by decide) hD.1 ⟨by omega, by omega⟩ ⟨by omega, by omega⟩ (fun j a b => gg (fun e => e.1) j a b)
  obtain ⟨V2, e2, k2, w2⟩ := rw_ins (V := V1) (v := d.2.1) (x := (A.length : Int)) (g := fun k => ((A ++ d :: B).getD k.toNat d0).2.1) (s1_8s hc) (s1_8c hc) (by decide) (hD.2.1.fr k1 (by omega) (by omega)) ⟨by omega, by omega⟩ ⟨by omega, by omega⟩ (fun j a b => gg (fun e => e.2.1) j a b)
  have k12 : fr (fun i => c + 15 ≤ i ∧ i ≤ c + 18) V V2 := (k1.mono (fun i q => by omega)).trans (k2.mono (fun i q => by omega))
  obtain ⟨V3, e3, k3, w3⟩ := rw_ins (V := V2) (v := d.2.2) (x := (A.length : Int)) (g := fun k => ((A ++ d :: B).getD k.toNat d0).2.2) (s1_9s hc) (s1_9c hc) (by decide) (hD.2.2.fr k12 (by omega) (by omega)) ⟨by omega, by omega⟩ ⟨by omega, by omega⟩ (fun j a b => gg (fun e => e.2.2) j a b)
  have el : (((A ++ B).length : Nat) : Int) + 1 = ((A ++ d :: B).length : Int) := by omega
  rw [el] at w1 w2 w3
  refine ⟨V3, ?_, (k12.mono (fun i q => by omega)).trans (k3.mono (fun i q => by omega)), (w1.fr k2 (by omega) (by omega)).fr k3 (by omega) (by omega), w2.fr k3 (by omega) (by omega), w3⟩
  unfold F_X1_addDuty
  exact E_bd e0 (E_bd e1 (E_bd e2 (E_bd e3 rfl)))
end

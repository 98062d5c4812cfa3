/-! best, study, ring: both -/
theorem dob_rg {C : mCy} (ho : okC C) {p l pts day : Int} : 0 ≤ dob C p l pts day ∧ dob C p l pts day ≤ 24 := by
  have h1 := ho.2.2.1.1
  have h2 := List.countP_le_length (p := dobB C p l pts day) (l := cd C)
  unfold dob
  omega
def bst (f : Int → Int) (l p : Int) (s : Int × Int) : Int × Int := if p = l then s else if s.2 < f p then (p, f p) else s
def aBest (Z : mZ) (l k : Int) : Int := if (0 ≤ l ∧ l < cn Z.1) ∧ (k = 0 ∨ k = 1) then (if k = 0 then (itr (bst (fun p => dob Z.1 p l (mp Z.2.1 p l) (mh Z.2.1 / 24)) l) 0 (cn Z.1).toNat (-1, -1)).1 else (itr (bst (fun p => dob Z.1 p l (mp Z.2.1 p l) (mh Z.2.1 / 24)) l) 0 (cn Z.1).toNat (-1, -1)).2) else -1
theorem bst_k {f : Int → Int} {l p : Int} {s : Int × Int} (h : p = l) : bst f l p s = s := if_pos h
theorem bst_n {f : Int → Int} {l p : Int} {s : Int × Int} (h : ¬ p = l) (h2 : ¬ s.2 < f p) : bst f l p s = s := (if_neg h).trans (if_neg h2)
theorem bst_y {f : Int → Int} {l p : Int} {s : Int × Int} (h : ¬ p = l) (h2 : s.2 < f p) : bst f l p s = (p, f p) := (if_neg h).trans (if_pos h2)
def stud (C : mCy) (h p l : Int) : Nat → Int → Int → Int
  | 0, _, _ => -1
  | f + 1, n, pts => if dob C p l pts (h / 24) = dcnt l (cd C) then n else stud C h p l f (n + 1) (made C 0 p l pts (h % 24) (h / 24))
def aStudy (Z : mZ) (p l : Int) : Int := if ((0 ≤ p ∧ p < cn Z.1) ∧ (0 ≤ l ∧ l < cn Z.1)) ∧ p ≠ l then stud Z.1 (mh Z.2.1) p l 100 0 (mp Z.2.1 p l) else -1
theorem dob_all {C : mCy} (p l pts day : Int) : ∀ D : List (Int × Int × Int), D.countP (dobB C p l pts day) = D.countP (fun d => decide (d.1 = l)) ↔ ∀ d ∈ D, d.1 = l → able C pts (if p = l then 1 else 0) d.2.1 d.2.2 day ≠ 0
  | [] => ⟨fun _ d h => (by cases h), fun _ => rfl⟩
  | d :: D => by
    have le : D.countP (dobB C p l pts day) ≤ D.countP (fun d => decide (d.1 = l)) := List.countP_mono_left (fun x _ h => decide_eq_true (of_decide_eq_true h).1)
    have ih := dob_all (C := C) p l pts day D
    rw [List.countP_cons, List.countP_cons]
    by_cases ha : d.1 = l
    · rw [if_pos (show decide (d.1 = l) = true from decide_eq_true ha)]
      by_cases hb : able C pts (if p = l then 1 else 0) d.2.1 d.2.2 day ≠ 0
      · rw [if_pos (show dobB C p l pts day d = true from decide_eq_true ⟨ha, hb⟩)]
        constructor
        · intro h d' hd' hl
          rcases List.mem_cons.mp hd' with q | q
          · rw [q]; exact hb
          · exact ih.mp (by omega) d' q hl
        · intro h
          have := ih.mpr (fun d' q hl => h d' (List.mem_cons_of_mem _ q) hl)
          omega
      · rw [if_neg (show ¬ dobB C p l pts day d = true from fun q => hb (of_decide_eq_true q).2)]
        constructor
        · intro h; omega
        · intro h; exact absurd (h d List.mem_cons_self ha) hb
    · rw [if_neg (show ¬ decide (d.1 = l) = true from fun q => ha (of_decide_eq_true q)), if_neg (show ¬ dobB C p l pts day d = true from fun q => ha (of_decide_eq_true q).1)]
      constructor
      · intro h d' hd' hl
        rcases List.mem_cons.mp hd' with q | q
        · rw [q] at hl; exact absurd hl ha
        · exact ih.mp (by omega) d' q hl
      · intro h
        have := ih.mpr (fun d' q hl => h d' (List.mem_cons_of_mem _ q) hl)
        omega
theorem dob_all' {C : mCy} {p l pts day : Int} : dob C p l pts day = dcnt l (cd C) ↔ ∀ d ∈ cd C, d.1 = l → able C pts (if p = l then 1 else 0) d.2.1 d.2.2 day ≠ 0 := by
  rw [← dob_all p l pts day (cd C)]
  unfold dob dcnt
  omega
section
variable {G : mG} {V V1 : mV} {cr c mo x m : Nat} {C : mCy} {M : mMo} {B : Int} {n : Int} {Z : mZ}
theorem bst_rg {f : Int → Int} {l : Int} (hf : ∀ p, 0 ≤ f p ∧ f p ≤ 24) : ∀ (k : Nat), (-1 ≤ (itr (bst f l) 0 k (-1, -1)).1 ∧ (itr (bst f l) 0 k (-1, -1)).1 < k) ∧ (-1 ≤ (itr (bst f l) 0 k (-1, -1)).2 ∧ (itr (bst f l) 0 k (-1, -1)).2 ≤ 24) := by
  intro k
  induction k with
  | zero => exact ⟨⟨Int.le_refl _, (by decide : (-1 : Int) < 0)⟩, Int.le_refl _, (by decide : (-1 : Int) ≤ 24)⟩
  | succ k ih =>
    rw [itr_snoc]
    have := hf (0 + (k : Int))
    generalize itr (bst f l) 0 k (-1, -1) = s at ih
    unfold bst
    split
    · omega
    · split
      · exact ⟨⟨by show -1 ≤ 0 + (k : Int); omega, by show 0 + (k : Int) < _; omega⟩, by show -1 ≤ f (0 + (k : Int)); omega, this.2⟩
      · omega
theorem c_best (hG : is9 G x) (ho : okZ Z) (hv : vZ G V x Z) {l k : Int} (hl : rg l) (hk : rg k) :
    ∃ V', F_X9_best G x l k V = some (V', aBest Z l k) ∧ fr (zE G x) V V' ∧ vZ G V' x Z := by
  have hn := ho.1.1
  have e1 := c_isP ho hv hl
  have hb := bst_rg (f := fun p => dob Z.1 p l (mp Z.2.1 p l) (mh Z.2.1 / 24)) (l := l) (fun p => dob_rg ho.1)
  unfold F_X9_best aBest
  by_cases h1 : 0 ≤ l ∧ l < cn Z.1
  rotate_left
  · rw [if_neg h1] at e1; rw [if_neg (fun q => h1 q.1)]; exact ⟨V, E_n e1 rfl, fr_refl, hv⟩
  rw [if_pos h1] at e1
  by_cases h2 : k = 0 ∨ k = 1
  rotate_left
  · rw [if_neg (fun q => h2 q.2)]; exact ⟨V, E_y e1 (E_gd hk (E_if (fun q => absurd (Or.inl q) h2) (fun _ => E_if (fun q => absurd (Or.inr q) h2) (fun _ => rfl)))), fr_refl, hv⟩
  rw [if_pos ⟨h1, h2⟩]
  have hz := hv
  obtain ⟨a, b, c, d, ⟨e0, f⟩, g, i, j⟩ := hz
  generalize hF : (fun p => dob Z.1 p l (mp Z.2.1 p l) (mh Z.2.1 / 24)) = F at hb ⊢
  have hFp : ∀ q, F q = dob Z.1 q l (mp Z.2.1 q l) (mh Z.2.1 / 24) := fun q => by rw [← hF]
  have main : Wp (lp (fun (s : Int × Int × Int) V => B_X9_best_27 G x l k s.1 s.2.1 s.2.2 V) FU ((-1), (-1), 0) V) (fun V' q => fr (sT (x + 27) (gR G x 10)) V V' ∧ kC V' (x + 27) ∧ q.2.1 = (itr (bst F l) 0 (cn Z.1).toNat (-1, -1)).1 ∧ q.2.2.1 = (itr (bst F l) 0 (cn Z.1).toNat (-1, -1)).2) := by
    refine W_lp (fun w (y : Int × Int × Int) U => fr (sT (x + 27) (gR G x 10)) V U ∧ kC U (x + 27) ∧ ∃ k : Nat, y = ((itr (bst F l) 0 k (-1, -1)).1, (itr (bst F l) 0 k (-1, -1)).2, (k : Int)) ∧ k + w = (cn Z.1).toNat) ?_ FU (cn Z.1).toNat _ V ⟨fr_refl, d, 0, rfl, by omega⟩ (by unfold FU; omega)
    rintro w y U ⟨hf, hkU, q, rfl, hw⟩
    show Wp (B_X9_best_27 G x l k (itr (bst F l) 0 q (-1, -1)).1 (itr (bst F l) 0 q (-1, -1)).2 (q : Int) U) _
    obtain ⟨hfz, hvU⟩ := vZ_T hv hf hkU
    have hsz : gI U (gR G x 10 + 1) 1 = cn Z.1 := hvU.2.1.2.1.1.1
    have sn := itr_snoc (bst F l) q 0 (-1, -1)
    rw [show (0 : Int) + (q : Int) = (q : Int) by omega] at sn
    have hbq := hb q
    unfold B_X9_best_27
    refine W_be p7_size ?_
    rw [hsz]
    refine W_gd ⟨by omega, by omega⟩ (W_gd ⟨by omega, by omega⟩ (W_if (fun z => W_so (Or.inr ⟨Nat.one_ne_zero, hf, hkU, ?_⟩)) (fun z => W_gd hl (W_if (fun e => ?_) (fun e => ?_)))))
    · have e : q = (cn Z.1).toNat := by omega
      rw [← e]; exact ⟨rfl, rfl⟩
    · have st : bst F l (q : Int) (itr (bst F l) 0 q (-1, -1)) = itr (bst F l) 0 q (-1, -1) := bst_k e
      unfold F_X9_best_J70_27
      exact W_gd (by decide) (W_gd ⟨by omega, by omega⟩ (W_if (fun _ => W_lt (W_so (Or.inl ⟨rfl, w - 1, by omega, hf, hkU, q + 1, by rw [sn, st]; rfl, by omega⟩))) (fun z => by omega)))
    · obtain ⟨U1, g1, kk1, f1⟩ := c_countAble (s9_5s hG) (s9_10s hG) (s9_8s hG) ho.1 hvU.2.1 hkU (by omega) (by have := hv.1; omega) hvU.2.2.1 ho.2.1 (p := (q : Int)) (l := l) ⟨by omega, by omega⟩ h1
      have dr := dob_rg ho.1 (p := (q : Int)) (l := l) (pts := mp Z.2.1 q l) (day := mh Z.2.1 / 24)
      refine W_be g1 ?_
      unfold F_X9_best_J70_27
      refine W_gd ⟨by omega, by omega⟩ (W_gd ⟨by omega, by omega⟩ (W_if (fun z => ?_) (fun z => ?_)))
      · have st : bst F l (q : Int) (itr (bst F l) 0 q (-1, -1)) = itr (bst F l) 0 q (-1, -1) := bst_n e (by rw [hFp]; omega)
        exact W_lt (W_so (Or.inl ⟨rfl, w - 1, by omega, hf.trans f1, kk1, q + 1, by rw [sn, st]; rfl, by omega⟩))
      · have st : bst F l (q : Int) (itr (bst F l) 0 q (-1, -1)) = ((q : Int), dob Z.1 q l (mp Z.2.1 q l) (mh Z.2.1 / 24)) := by rw [bst_y e (by rw [hFp]; omega), hFp]
        exact W_lt (W_so (Or.inl ⟨rfl, w - 1, by omega, hf.trans f1, kk1, q + 1, by rw [sn, st]; rfl, by omega⟩))
  obtain ⟨V', q, e2, e3, e4, e5, e6⟩ := main
  have J : F_X9_best_J19 G x l k V = some (V', if k = 0 then (itr (bst F l) 0 (cn Z.1).toNat (-1, -1)).1 else (itr (bst F l) 0 (cn Z.1).toNat (-1, -1)).2) := by
    unfold F_X9_best_J19
    refine E_bd e2 (E_gd hk (E_if (fun z => E_so rfl ?_) (fun z => E_so rfl ?_)))
    · rw [if_pos z]; exact e5
    · rw [if_neg z]; exact e6
  exact ⟨V', E_y e1 (E_gd hk (E_if (fun _ => J) (fun q0 => E_if (fun _ => J) (fun q1 => by omega)))), vZ_T hv e3 e4⟩
theorem r_best (ho : okZ Z) (hv : rZ V m Z) {l k : Int} (hl : rg l) (hk : rg k) :
    ∃ V', F_X10_best G m l k V = some (V', aBest Z l k) ∧ rT m V V' := by
  have hn := ho.1.1
  have e1 := r_isP (G := G) ho.1 hv.1 hl
  have ei := r_isIn (G := G) (V := V) (x := k) (a := 0) (b := 1) ⟨by omega, by omega⟩ ⟨by decide, by decide⟩ ⟨by decide, by decide⟩
  have hb := bst_rg (f := fun p => dob Z.1 p l (mp Z.2.1 p l) (mh Z.2.1 / 24)) (l := l) (fun p => dob_rg ho.1)
  unfold F_X10_best aBest
  by_cases h1 : 0 ≤ l ∧ l < cn Z.1
  rotate_left
  · rw [if_neg h1] at e1; rw [if_neg (fun q => h1 q.1)]; exact ⟨V, E_n e1 rfl, rT_refl⟩
  rw [if_pos h1] at e1
  by_cases h2 : k = 0 ∨ k = 1
  rotate_left
  · rw [if_neg (by omega)] at ei; rw [if_neg (fun q => h2 q.2)]; exact ⟨V, E_y e1 (E_gd hk (E_n ei rfl)), rT_refl⟩
  rw [if_pos (by omega)] at ei
  rw [if_pos ⟨h1, h2⟩]
  generalize hF : (fun p => dob Z.1 p l (mp Z.2.1 p l) (mh Z.2.1 / 24)) = F at hb ⊢
  have hFp : ∀ q, F q = dob Z.1 q l (mp Z.2.1 q l) (mh Z.2.1 / 24) := fun q => by rw [← hF]
  have main : Wp (lp (fun (s : Int × Int × Int) V => B_X10_best_28 G m l k s.1 s.2.1 s.2.2 V) FU ((-1), (-1), 0) V) (fun V' q => rT m V V' ∧ q.2.1 = (itr (bst F l) 0 (cn Z.1).toNat (-1, -1)).1 ∧ q.2.2.1 = (itr (bst F l) 0 (cn Z.1).toNat (-1, -1)).2) := by
    refine W_lp (fun w (y : Int × Int × Int) U => rT m V U ∧ ∃ k : Nat, y = ((itr (bst F l) 0 k (-1, -1)).1, (itr (bst F l) 0 k (-1, -1)).2, (k : Int)) ∧ k + w = (cn Z.1).toNat) ?_ FU (cn Z.1).toNat _ V ⟨rT_refl, 0, rfl, by omega⟩ (by unfold FU; omega)
    rintro w y U ⟨hf, q, rfl, hw⟩
    show Wp (B_X10_best_28 G m l k (itr (bst F l) 0 q (-1, -1)).1 (itr (bst F l) 0 q (-1, -1)).2 (q : Int) U) _
    have hvU := hv.1.fr hf.cs
    have hMU : rM (gA U (m + 37)) (cn Z.1) Z.2.1 := by rw [hf.1]; exact hv.2.1
    have sn := itr_snoc (bst F l) q 0 (-1, -1)
    rw [show (0 : Int) + (q : Int) = (q : Int) by omega] at sn
    have hbq := hb q
    unfold B_X10_best_28
    refine W_be (r_many hvU) (W_gd ⟨by omega, by omega⟩ (W_gd ⟨by omega, by omega⟩ (W_if (fun z => W_so (Or.inr ⟨Nat.one_ne_zero, hf, ?_⟩)) (fun z => W_gd hl (W_if (fun e => ?_) (fun e => ?_))))))
    · have e : q = (cn Z.1).toNat := by omega
      rw [← e]; exact ⟨rfl, rfl⟩
    · have st : bst F l (q : Int) (itr (bst F l) 0 q (-1, -1)) = itr (bst F l) 0 q (-1, -1) := bst_k e
      exact W_lt (W_so (Or.inl ⟨rfl, w - 1, by omega, hf, q + 1, by rw [sn, st]; rfl, by omega⟩))
    · have hpt := ho.2.1.2.2.2.2.1 (q : Int) l (by omega) (by omega) h1.1 h1.2
      obtain ⟨U1, g1, f1⟩ := r_doable (G := G) ho.1 hvU hMU ho.2.1 (p := (q : Int)) (l := l) ⟨by omega, by omega⟩ hl hpt
      have dr := dob_rg ho.1 (p := (q : Int)) (l := l) (pts := mp Z.2.1 q l) (day := mh Z.2.1 / 24)
      refine W_be (r_pts hMU hn.2 ⟨by omega, by omega⟩ h1) (W_be g1 (W_gd ⟨by omega, by omega⟩ (W_gd ⟨by omega, by omega⟩ (W_if (fun z => ?_) (fun z => ?_)))))
      · have st : bst F l (q : Int) (itr (bst F l) 0 q (-1, -1)) = ((q : Int), dob Z.1 q l (mp Z.2.1 q l) (mh Z.2.1 / 24)) := by rw [bst_y e (by rw [hFp]; exact z), hFp]
        exact W_lt (W_so (Or.inl ⟨rfl, w - 1, by omega, hf.trans f1, q + 1, by rw [sn, st]; rfl, by omega⟩))
      · have st : bst F l (q : Int) (itr (bst F l) 0 q (-1, -1)) = itr (bst F l) 0 q (-1, -1) := bst_n e (by rw [hFp]; exact z)
        exact W_lt (W_so (Or.inl ⟨rfl, w - 1, by omega, hf.trans f1, q + 1, by rw [sn, st]; rfl, by omega⟩))
  obtain ⟨V', q, e2, e3, e5, e6⟩ := main
  refine ⟨V', E_y e1 (E_gd hk (E_y ei (E_bd e2 (E_if (fun z => E_so rfl ?_) (fun z => E_so rfl ?_))))), e3⟩
  · rw [if_pos z]; exact e5
  · rw [if_neg z]; exact e6
theorem c_inAll (hG : is2 G cr) (hc : is1 G c) (ho : okC C) (hv : vC V c C) (hk : kC V cr) (hd : cr + 10 < c) {h p l pts : Int} (hh : 0 ≤ h ∧ h ≤ 9999) (hp : 0 ≤ p ∧ p < cn C) (hl : 0 ≤ l ∧ l < cn C) (hpt : 0 ≤ pts ∧ pts ≤ 99) :
    ∃ V', F_X2_ableInAll G cr c h p l pts V = some (V', if dob C p l pts (h / 24) = dcnt l (cd C) then 1 else 0) ∧ kC V' cr ∧ fr (sT cr c) V V' := by
  have hn := ho.1
  have hD := ho.2.2.1
  have hlen := srt_len (cn C).toNat (cd C)
  have hms : ∀ d, d ∈ srt (cn C).toNat (cd C) ↔ d ∈ cd C := fun d => mem_srt ho
  generalize hDD : srt (cn C).toNat (cd C) = D at hlen hms
  have vd : ∀ {U}, vC U c C → vD U c D := fun h => by rw [← hDD]; exact h.2.2.2.1
  have main : Wp (lp (fun (s : Int) V => B_X2_ableInAll_3 G cr c h p l pts s V) FU 0 V) (fun V' q => fr (sT cr c) V V' ∧ kC V' cr ∧ ((q.1 = 1 ∧ ¬ ∀ d ∈ cd C, d.1 = l → able C pts (if p = l then 1 else 0) d.2.1 d.2.2 (h / 24) ≠ 0) ∨ (q.1 = 2 ∧ ∀ d ∈ cd C, d.1 = l → able C pts (if p = l then 1 else 0) d.2.1 d.2.2 (h / 24) ≠ 0))) := by
    refine W_lp (fun w (y : Int) U => fr (sT cr c) V U ∧ kC U cr ∧ ∃ k : Nat, y = (k : Int) ∧ k + w = D.length ∧ ∀ d ∈ D.take k, d.1 = l → able C pts (if p = l then 1 else 0) d.2.1 d.2.2 (h / 24) ≠ 0) ?_ FU D.length _ V ⟨fr_refl, hk, 0, rfl, by omega, fun d q => by cases q⟩ (by unfold FU; omega)
    rintro w y U ⟨hf, hkU, k, rfl, hw, hall⟩
    have hvU := vC_T hv hf hd
    obtain ⟨d1, d2, d3⟩ := vd hvU
    unfold B_X2_ableInAll_3
    refine W_be p7_size ?_
    rw [d1.1]
    refine W_gd ⟨by omega, by omega⟩ (W_gd ⟨by omega, by omega⟩ (W_if (fun q => W_so (Or.inr ⟨(by decide : (2 : Nat) ≠ 0), hf, hkU, Or.inr ⟨rfl, ?_⟩⟩)) (fun q => ?_)))
    · have e : k = D.length := by omega
      rw [e, List.take_length] at hall
      exact fun d q => hall d ((hms d).mpr q)
    · have hkl : k < D.length := by omega
      have hdk : D.getD k d0 = D[k] := by rw [List.getD_eq_getElem?_getD, List.getElem?_eq_getElem hkl]; rfl
      have hdm := (hms _).mp (List.getElem_mem hkl)
      obtain ⟨od1, od2, od3⟩ := hD.2 _ hdm
      have htake : ∀ d, d ∈ D.take (k + 1) → d ∈ D.take k ∨ d = D[k] := by
        intro d
        rw [List.take_succ, List.getElem?_eq_getElem hkl]
        simp only [Option.toList_some, List.mem_append, List.mem_singleton]
        exact id
      have r15 : F_X7_get G (c + 15) (k : Int) U = some (U, D[k].1) := by
        rw [rw_get (s1_7s hc) (s1_7c hc) d1 (by omega) ⟨by omega, by omega⟩]
        simp only [Int.toNat_natCast, hdk]
      have r17 : ∀ {W}, vC W c C → F_X7_get G (c + 17) (k : Int) W = some (W, D[k].2.1) := by
        intro W hW
        rw [rw_get (s1_8s hc) (s1_8c hc) (vd hW).2.1 (by omega) ⟨by omega, by omega⟩]
        simp only [Int.toNat_natCast, hdk]
      have r19 : F_X7_get G (c + 19) (k : Int) U = some (U, D[k].2.2) := by
        rw [rw_get (s1_9s hc) (s1_9c hc) d3 (by omega) ⟨by omega, by omega⟩]
        simp only [Int.toNat_natCast, hdk]
      refine W_be r15 (W_gd ⟨by omega, by omega⟩ (W_gd ⟨by omega, by omega⟩ (W_if (fun e => ?_) (fun e => ?_))))
      · obtain ⟨U1, g1, k1, f1, t1⟩ := c_time (V := U) hG hkU (a := D[k].2.2) (b := h / 24) ⟨by omega, by omega⟩ ⟨by omega, by omega⟩
        have f1' : fr (sT cr c) U U1 := f1.mono (fun i q => Or.inl q)
        have v1 := vC_T hvU f1' hd
        obtain ⟨U2, g2, k2, f2, -, o2⟩ := c_able (V := U1) hG hc ho v1 k1 hd hp hl od2 hpt t1
        refine W_be r19 (W_gd ⟨by omega, by omega⟩ ?_)
        rw [(tm24 hh.1).2]
        refine W_be g1 (W_be (r17 v1) (W_be g2 (W_gd ⟨by omega, by omega⟩ (W_if (fun z => ?_) (fun z => ?_)))))
        · exact W_so (Or.inr ⟨Nat.one_ne_zero, (hf.trans f1').trans f2, k2, Or.inl ⟨rfl, fun q => q _ hdm e z⟩⟩)
        · refine W_lt (W_so (Or.inl ⟨rfl, w - 1, by omega, (hf.trans f1').trans f2, k2, k + 1, rfl, by omega, fun d hd' hl' => ?_⟩))
          rcases htake d hd' with q | q
          · exact hall d q hl'
          · rw [q]; exact z
      · refine W_lt (W_so (Or.inl ⟨rfl, w - 1, by omega, hf, hkU, k + 1, rfl, by omega, fun d hd' hl' => ?_⟩))
        rcases htake d hd' with q | q
        · exact hall d q hl'
        · rw [q] at hl'; exact absurd hl' e
  obtain ⟨V', q, e1, e2, e3, e4⟩ := main
  refine ⟨V', ?_, e3, e2⟩
  unfold F_X2_ableInAll
  refine E_bd e1 ?_
  rcases e4 with ⟨a, b⟩ | ⟨a, b⟩
  · rw [if_pos a, if_neg (fun q => b (dob_all'.mp q))]
  · rw [if_neg (by omega), if_pos (dob_all'.mpr b)]
theorem c_study (hG : is9 G x) (ho : okZ Z) (hv : vZ G V x Z) {p l : Int} (hp : rg p) (hl : rg l) :
    ∃ V', F_X9_study G x p l V = some (V', aStudy Z p l) ∧ fr (zE G x) V V' ∧ vZ G V' x Z := by
  have hn := ho.1.1
  have hh := ho.2.1.1
  have e1 := c_isP ho hv hp
  have e2 := c_isP ho hv hl
  unfold F_X9_study aStudy
  by_cases h1 : 0 ≤ p ∧ p < cn Z.1
  rotate_left
  · rw [if_neg h1] at e1; rw [if_neg (fun q => h1 q.1.1)]; exact ⟨V, E_n e1 rfl, fr_refl, hv⟩
  rw [if_pos h1] at e1
  by_cases h2 : 0 ≤ l ∧ l < cn Z.1
  rotate_left
  · rw [if_neg h2] at e2; rw [if_neg (fun q => h2 q.1.2)]; exact ⟨V, E_y e1 (E_n e2 rfl), fr_refl, hv⟩
  rw [if_pos h2] at e2
  by_cases h3 : p = l
  · rw [if_neg (fun q => q.2 h3)]; exact ⟨V, E_y e1 (E_y e2 (E_gd hp (E_gd hl (E_if (fun _ => rfl) (fun q => absurd h3 q))))), fr_refl, hv⟩
  rw [if_pos ⟨⟨h1, h2⟩, h3⟩]
  have hpt := ho.2.1.2.2.2.2.1 p l h1.1 h1.2 h2.1 h2.2
  have main : Wp (lp (fun (s : Int × Int) V => B_X9_study_36 G x p l s.1 s.2 V) FU (mp Z.2.1 p l, 0) V) (fun V' q => fr (sT (x + 27) (gR G x 10)) V V' ∧ kC V' (x + 27) ∧ ((q.1 = 1 ∧ stud Z.1 (mh Z.2.1) p l 100 0 (mp Z.2.1 p l) = q.2.2) ∨ (q.1 = 2 ∧ stud Z.1 (mh Z.2.1) p l 100 0 (mp Z.2.1 p l) = -1))) := by
    refine W_lp (fun w (y : Int × Int) U => fr (sT (x + 27) (gR G x 10)) V U ∧ kC U (x + 27) ∧ ∃ (k : Nat) (t : Int), y = (t, (k : Int)) ∧ k + w = 100 ∧ (0 ≤ t ∧ t ≤ 99) ∧ stud Z.1 (mh Z.2.1) p l w k t = stud Z.1 (mh Z.2.1) p l 100 0 (mp Z.2.1 p l)) ?_ FU 100 _ V ⟨fr_refl, hv.2.2.2.1, 0, mp Z.2.1 p l, rfl, by omega, hpt, rfl⟩ (by unfold FU; omega)
    rintro w y U ⟨hf, hkU, k, t, rfl, hw, ht, hst⟩
    show Wp (B_X9_study_36 G x p l t (k : Int) U) _
    obtain ⟨hfz, hvU⟩ := vZ_T hv hf hkU
    unfold B_X9_study_36
    refine W_gd ⟨by omega, by omega⟩ (W_if (fun q => W_so (Or.inr ⟨(by decide : (2 : Nat) ≠ 0), hf, hkU, Or.inr ⟨rfl, ?_⟩⟩)) (fun q => ?_))
    · have e : w = 0 := by omega
      rw [← hst, e]; rfl
    · obtain ⟨w, rfl⟩ : ∃ i, w = i + 1 := ⟨w - 1, by omega⟩
      obtain ⟨U1, g1, k1, f1⟩ := c_inAll (s9_5s hG) (s9_10s hG) ho.1 hvU.2.1 hkU (by have := hv.1; omega) hh h1 h2 ht
      have h0 : gI U (x + 227) 0 = mh Z.2.1 := hvU.2.2.1.1
      rw [h0]
      unfold stud at hst
      by_cases z : dob Z.1 p l t (mh Z.2.1 / 24) = dcnt l (cd Z.1)
      · rw [if_pos z] at g1 hst
        exact W_be g1 (W_gd (by decide) (W_if (fun q => absurd q (by decide)) (fun _ => W_so (Or.inr ⟨Nat.one_ne_zero, hf.trans f1, k1, Or.inl ⟨rfl, hst.symm⟩⟩))))
      · rw [if_neg z] at g1 hst
        obtain ⟨hfz1, hvU1⟩ := vZ_T hvU f1 k1
        obtain ⟨U2, g2, k2, f2, -⟩ := c_learned (V := U1) (s9_5s hG) (s9_10s hG) ho.1 hvU1.2.1 k1 (by have := hv.1; omega) (h := mh Z.2.1) (p := p) (l := l) (pts := t) hh h1 h2 ht
        have h01 : gI U1 (x + 227) 0 = mh Z.2.1 := hvU1.2.2.1.1
        refine W_be g1 (W_gd (by decide) (W_if (fun _ => ?_) (fun q => absurd rfl q)))
        rw [h01]
        exact W_be g2 (W_lt (W_so (Or.inl ⟨rfl, w, by omega, (hf.trans f1).trans f2, k2, k + 1, made Z.1 0 p l t (mh Z.2.1 % 24) (mh Z.2.1 / 24), rfl, by omega, made_rg ht, hst⟩)))
  obtain ⟨V', q, e3, e4, e5, e6⟩ := main
  refine ⟨V', E_y e1 (E_y e2 (E_gd hp (E_gd hl (E_if (fun q => absurd q h3) (fun _ => E_bd (m_points (s9_8s hG) hn.2 hv.2.2.1 h1 h2) (E_bd e3 ?_)))))), vZ_T hv e4 e5⟩
  rcases e6 with ⟨a, b⟩ | ⟨a, b⟩
  · rw [if_pos a, b]
  · rw [if_neg (by omega), b]
theorem r_study (ho : okZ Z) (hv : rZ V m Z) {p l : Int} (hp : rg p) (hl : rg l) :
    ∃ V', F_X10_study G m p l V = some (V', aStudy Z p l) ∧ rT m V V' := by
  have hn := ho.1.1
  have hh := ho.2.1.1
  have e1 := r_isP (G := G) ho.1 hv.1 hp
  have e2 := r_isP (G := G) ho.1 hv.1 hl
  unfold F_X10_study aStudy
  by_cases h1 : 0 ≤ p ∧ p < cn Z.1
  rotate_left
  · rw [if_neg h1] at e1; rw [if_neg (fun q => h1 q.1.1)]; exact ⟨V, E_n e1 rfl, rT_refl⟩
  rw [if_pos h1] at e1
  by_cases h2 : 0 ≤ l ∧ l < cn Z.1
  rotate_left
  · rw [if_neg h2] at e2; rw [if_neg (fun q => h2 q.1.2)]; exact ⟨V, E_y e1 (E_n e2 rfl), rT_refl⟩
  rw [if_pos h2] at e2
  by_cases h3 : p = l
  · rw [if_neg (fun q => q.2 h3)]; exact ⟨V, E_y e1 (E_y e2 (E_gd hp (E_gd hl (E_if (fun _ => rfl) (fun q => absurd h3 q))))), rT_refl⟩
  rw [if_pos ⟨⟨h1, h2⟩, h3⟩]
  have hpt := ho.2.1.2.2.2.2.1 p l h1.1 h1.2 h2.1 h2.2
  have main : Wp (lp (fun (s : Int × Int) V => B_X10_study_33 G m p l s.1 s.2 V) FU (mp Z.2.1 p l, 0) V) (fun V' q => rT m V V' ∧ ((q.1 = 1 ∧ stud Z.1 (mh Z.2.1) p l 100 0 (mp Z.2.1 p l) = q.2.2) ∨ (q.1 = 2 ∧ stud Z.1 (mh Z.2.1) p l 100 0 (mp Z.2.1 p l) = -1))) := by
    refine W_lp (fun w (y : Int × Int) U => rT m V U ∧ ∃ (k : Nat) (t : Int), y = (t, (k : Int)) ∧ k + w = 100 ∧ (0 ≤ t ∧ t ≤ 99) ∧ stud Z.1 (mh Z.2.1) p l w k t = stud Z.1 (mh Z.2.1) p l 100 0 (mp Z.2.1 p l)) ?_ FU 100 _ V ⟨rT_refl, 0, mp Z.2.1 p l, rfl, by omega, hpt, rfl⟩ (by unfold FU; omega)
    rintro w y U ⟨hf, k, t, rfl, hw, ht, hst⟩
    show Wp (B_X10_study_33 G m p l t (k : Int) U) _
    unfold B_X10_study_33
    refine W_gd ⟨by omega, by omega⟩ (W_if (fun q => W_so (Or.inr ⟨(by decide : (2 : Nat) ≠ 0), hf, Or.inr ⟨rfl, ?_⟩⟩)) (fun q => ?_))
    · have e : w = 0 := by omega
      rw [← hst, e]; rfl
    · obtain ⟨w, rfl⟩ : ∃ i, w = i + 1 := ⟨w - 1, by omega⟩
      have hMU : rM (gA U (m + 37)) (cn Z.1) Z.2.1 := by rw [hf.1]; exact hv.2.1
      obtain ⟨U1, g1, f1⟩ := r_doable (G := G) ho.1 (hv.1.fr hf.cs) hMU ho.2.1 (p := p) (l := l) hp hl ht
      have f01 := hf.trans f1
      have g2 := r_dutiesOf (G := G) (V := U1) ho.1 (hv.1.fr f01.cs) hl
      have dr := dob_rg ho.1 (p := p) (l := l) (pts := t) (day := mh Z.2.1 / 24)
      have dc : 0 ≤ dcnt l (cd Z.1) ∧ dcnt l (cd Z.1) ≤ 24 := by
        have h1 := ho.1.2.2.1.1
        have h2 := List.countP_le_length (p := fun d : Int × Int × Int => decide (d.1 = l)) (l := cd Z.1)
        unfold dcnt; omega
      have h01 : gA U1 (m + 37) 0 = mh Z.2.1 := by rw [f01.1]; exact hv.2.1.1
      unfold stud at hst
      refine W_be g1 (W_be g2 (W_gd ⟨by omega, by omega⟩ (W_gd ⟨by omega, by omega⟩ (W_if (fun z => ?_) (fun z => ?_)))))
      · rw [if_pos z] at hst
        exact W_so (Or.inr ⟨Nat.one_ne_zero, f01, Or.inl ⟨rfl, hst.symm⟩⟩)
      · rw [if_neg z] at hst
        obtain ⟨U2, g3, f2⟩ := r_made (G := G) (V := U1) ho.1 (hv.1.fr f01.cs) (w := 0) (Or.inl rfl) (p := p) (l := l) (pts := t) (clock := mh Z.2.1 % 24) (day := mh Z.2.1 / 24) h1 h2 ht ⟨by omega, by omega⟩ ⟨by omega, by omega⟩
        rw [h01, (tm24 hh.1).1, (tm24 hh.1).2]
        exact W_gd ⟨by omega, by omega⟩ (W_be g3 (W_lt (W_so (Or.inl ⟨rfl, w, by omega, f01.trans f2, k + 1, made Z.1 0 p l t (mh Z.2.1 % 24) (mh Z.2.1 / 24), rfl, by omega, made_rg ht, hst⟩))))
  obtain ⟨V', q, e3, e4, e6⟩ := main
  refine ⟨V', E_y e1 (E_y e2 (E_gd hp (E_gd hl (E_if (fun q => absurd q h3) (fun _ => E_bd (r_pts hv.2.1 hn.2 h1 h2) (E_bd e3 ?_)))))), e4⟩
  rcases e6 with ⟨a, b⟩ | ⟨a, b⟩
  · rw [if_pos a, b]
  · rw [if_neg (by omega), b]
/-- a ring -/
def rin (f : Int → Int) (p : Int) : Nat → Int → Int → Int
  | 0, _, _ => 0
  | w + 1, k, one => if one = -1 then 0 else if f one = p then k else rin f p w (k + 1) (f one)
def aRing (Z : mZ) (p : Int) : Int := if 0 ≤ p ∧ p < cn Z.1 then rin (cc Z.1) p 10 1 p else -1
theorem c_ring (hG : is9 G x) (ho : okZ Z) (hv : vZ G V x Z) {p : Int} (hp : rg p) : F_X9_ring G x p V = some (V, aRing Z p) := by
  have hn := ho.1.1
  have e1 := c_isP ho hv hp
  unfold F_X9_ring aRing
  by_cases h1 : 0 ≤ p ∧ p < cn Z.1
  rotate_left
  · rw [if_neg h1] at e1 ⊢; exact E_n e1 rfl
  rw [if_pos h1] at e1 ⊢
  have main : Wp (lp (fun (s : Int × Int) V => B_X9_ring_14 G x p s.1 s.2 V) FU (p, 1) V) (fun V' q => V' = V ∧ ((q.1 = 1 ∧ rin (cc Z.1) p 10 1 p = q.2.2) ∨ (q.1 = 2 ∧ rin (cc Z.1) p 10 1 p = 0))) := by
    refine W_lp (fun w (y : Int × Int) U => U = V ∧ ∃ (k : Nat) (t : Int), y = (t, (k : Int)) ∧ k + w = 11 ∧ (-1 ≤ t ∧ t < cn Z.1) ∧ rin (cc Z.1) p w k t = rin (cc Z.1) p 10 1 p) ?_ FU 10 _ V ⟨rfl, 1, p, rfl, by omega, ⟨by omega, by omega⟩, rfl⟩ (by unfold FU; omega)
    rintro w y U ⟨rfl, k, t, rfl, hw, ht, hst⟩
    show Wp (B_X9_ring_14 G x p t (k : Int) U) _
    unfold B_X9_ring_14
    refine W_gd ⟨by omega, by omega⟩ (W_if (fun q => W_so (Or.inr ⟨(by decide : (2 : Nat) ≠ 0), rfl, Or.inr ⟨rfl, ?_⟩⟩)) (fun q => ?_))
    · have e : w = 0 := by omega
      rw [← hst, e]; rfl
    · obtain ⟨w, rfl⟩ : ∃ i, w = i + 1 := ⟨w - 1, by omega⟩
      unfold rin at hst
      refine W_gd ⟨by omega, by omega⟩ (W_if (fun z => W_so (Or.inr ⟨(by decide : (2 : Nat) ≠ 0), rfl, Or.inr ⟨rfl, ?_⟩⟩)) (fun z => ?_))
      · rw [if_pos z] at hst; exact hst.symm
      · rw [if_neg z] at hst
        have hb := (ho.1.2.2.2.2.2.1 t (by omega) ht.2).1
        refine W_be (rw_get (s1_2s (s9_10s hG)) (s1_2c (s9_10s hG)) hv.2.1.2.1.2.2.1 hn.2 ⟨by omega, ht.2⟩) (W_gd ⟨by omega, by omega⟩ (W_gd hp (W_if (fun z2 => ?_) (fun z2 => ?_))))
        · rw [if_pos z2] at hst
          exact W_so (Or.inr ⟨Nat.one_ne_zero, rfl, Or.inl ⟨rfl, hst.symm⟩⟩)
        · rw [if_neg z2] at hst
          exact W_lt (W_so (Or.inl ⟨rfl, w, by omega, rfl, k + 1, cc Z.1 t, rfl, by omega, hb, hst⟩))
  obtain ⟨V', q, e3, rfl, e6⟩ := main
  refine E_y e1 (E_bd e3 ?_)
  rcases e6 with ⟨a, b⟩ | ⟨a, b⟩
  · rw [if_pos a, b]
  · rw [if_neg (by omega), b]
theorem r_ring (ho : okZ Z) (hv : rZ V m Z) {p : Int} (hp : rg p) : F_X10_ring G m p V = some (V, aRing Z p) := by
  have hn := ho.1.1
  have e1 := r_isP (G := G) ho.1 hv.1 hp
  unfold F_X10_ring aRing
  by_cases h1 : 0 ≤ p ∧ p < cn Z.1
  rotate_left
  · rw [if_neg h1] at e1 ⊢; exact E_n e1 rfl
  rw [if_pos h1] at e1 ⊢
  have cell : ∀ t, 0 ≤ t → t < cn Z.1 → gA V (m + 31) (10 + t).toNat = cc Z.1 t := fun t a b => (hv.1.2.2.2.2.1 t a b).1
  have main : Wp (lp (fun (s : Int × Int) V => B_X10_ring_22 G m p s.1 s.2 V) FU (1, cc Z.1 p) V) (fun V' q => V' = V ∧ (if q.2.2 = p then q.2.1 else 0) = rin (cc Z.1) p 10 1 p ∧ rg q.2.2) := by
    refine W_lp (fun w (y : Int × Int) U => U = V ∧ ∃ (k : Nat) (t : Int) (u : Int → Int), y = ((k : Int), cc Z.1 t) ∧ k + w = 11 ∧ (0 ≤ t ∧ t < cn Z.1) ∧ rin (cc Z.1) p w k t = rin (cc Z.1) p 10 1 p ∧ ci u 1 0 (cn Z.1).toNat + k = cn Z.1 ∧ u t ≠ 1 ∧ ∀ q, 0 ≤ q → q < cn Z.1 → u q ≠ 1 → q ≠ p → u (cb Z.1 q) ≠ 1 ∧ cb Z.1 q ≠ t) ?_ FU 10 _ V ⟨rfl, 1, p, fun q => if q = p then 0 else 1, rfl, by omega, h1, rfl, ?_, by show (if p = p then (0 : Int) else 1) ≠ 1; rw [if_pos rfl]; decide, fun q a b c d => absurd (show (if q = p then (0 : Int) else 1) = 1 from if_neg d) c⟩ (by unfold FU; omega)
    · rintro w y U ⟨rfl, k, t, u, rfl, hw, ht, hst, hcnt, hut, hcl⟩
      show Wp (B_X10_ring_22 G m p (k : Int) (cc Z.1 t) U) _
      have hb := (ho.1.2.2.2.2.2.1 t ht.1 ht.2).1
      have hc0 := (ci_rg u 1 (cn Z.1).toNat 0).1
      obtain ⟨w, rfl⟩ : ∃ i, w = i + 1 := ⟨w - 1, by omega⟩
      rw [show rin (cc Z.1) p (w + 1) (k : Int) t = if t = -1 then 0 else if cc Z.1 t = p then (k : Int) else rin (cc Z.1) p w ((k : Int) + 1) (cc Z.1 t) from rfl, if_neg (by omega)] at hst
      unfold B_X10_ring_22
      refine W_gd ⟨by omega, by omega⟩ (W_if (fun z => W_so (Or.inr ⟨Nat.one_ne_zero, rfl, ?_, ⟨by show -2147483648 ≤ cc Z.1 t; omega, by show cc Z.1 t ≤ 2147483647; omega⟩⟩)) (fun z => W_gd hp (W_if (fun z2 => W_so (Or.inr ⟨Nat.one_ne_zero, rfl, ?_, ⟨by show -2147483648 ≤ cc Z.1 t; omega, by show cc Z.1 t ≤ 2147483647; omega⟩⟩)) (fun z2 => W_gd ⟨by omega, by omega⟩ (W_if (fun q => by omega) (fun _ => W_gd ⟨by omega, by omega, by omega⟩ (W_lt (W_lt (W_so (Or.inl ⟨rfl, w, by omega, rfl, k + 1, cc Z.1 t, uf u (cc Z.1 t) 0, ?_, by omega, ⟨by omega, hb.2⟩, ?_, ?_, ?_, ?_⟩))))))))))
      · show (if cc Z.1 t = p then (k : Int) else 0) = _
        rw [if_neg (by omega)] at hst ⊢
        rw [← hst]
        cases w with
        | zero => rfl
        | succ w => unfold rin; rw [if_pos z]
      · show (if cc Z.1 t = p then (k : Int) else 0) = _
        rw [if_pos z2] at hst ⊢
        exact hst
      · rw [cell _ (by omega) hb.2]; rfl
      · rw [if_neg z2] at hst; exact hst
      · have hu1 : u (cc Z.1 t) = 1 := by
          refine Classical.byContradiction (fun q => ?_)
          have h2 := (hcl (cc Z.1 t) (by omega) hb.2 q z2).2
          exact h2 ((ho.1.2.2.2.2.2.2.1 t (cc Z.1 t) ht.1 ht.2 (by omega) hb.2).mp rfl)
        have d := (ci_dec (f := u) (g := uf u (cc Z.1 t) 0) (v := 1) (k0 := cc Z.1 t) hu1 (by unfold uf; rw [if_pos rfl]; decide) (fun j hj => by unfold uf; rw [if_neg hj]) (cn Z.1).toNat 0).2 (by omega) (by omega)
        omega
      · unfold uf; rw [if_pos rfl]; decide
      · intro q q0 q1 hq hqp
        have hu1 : u (cc Z.1 t) = 1 := by
          refine Classical.byContradiction (fun q => ?_)
          have h2 := (hcl (cc Z.1 t) (by omega) hb.2 q z2).2
          exact h2 ((ho.1.2.2.2.2.2.2.1 t (cc Z.1 t) ht.1 ht.2 (by omega) hb.2).mp rfl)
        have ne : ∀ j, u j ≠ 1 → j ≠ cc Z.1 t := fun j hj e => hj (by rw [e]; exact hu1)
        by_cases e : q = cc Z.1 t
        · have hbt : cb Z.1 q = t := by rw [e]; exact (ho.1.2.2.2.2.2.2.1 t (cc Z.1 t) ht.1 ht.2 (by omega) hb.2).mp rfl
          rw [hbt]
          refine ⟨?_, ne t hut⟩
          unfold uf; rw [if_neg (ne t hut)]; exact hut
        · have hq' : u q ≠ 1 := by unfold uf at hq; rw [if_neg e] at hq; exact hq
          obtain ⟨a, b⟩ := hcl q q0 q1 hq' hqp
          refine ⟨?_, ne _ a⟩
          unfold uf; rw [if_neg (ne _ a)]; exact a
    · have full := ci_full (fun _ => (1 : Int)) 1 (cn Z.1).toNat 0 (fun _ _ _ => rfl)
      have d := (ci_dec (f := fun _ => (1 : Int)) (g := fun q => if q = p then (0 : Int) else 1) (v := 1) (k0 := p) rfl (by rw [if_pos rfl]; decide) (fun j hj => if_neg hj) (cn Z.1).toNat 0).2 (by omega) (by omega)
      show ci (fun q => if q = p then (0 : Int) else 1) 1 0 (cn Z.1).toNat + ((1 : Nat) : Int) = cn Z.1
      omega
  obtain ⟨V', q, e3, rfl, e6, e7⟩ := main
  refine E_y e1 (E_gd ⟨by omega, by omega, by omega⟩ (E_lt ?_))
  rw [cell p h1.1 h1.2]
  refine E_bd e3 ?_
  unfold F_X10_ring_J54
  refine E_gd e7 (E_gd hp (E_if (fun z => E_so rfl ?_) (fun z => E_so rfl ?_)))
  · rw [if_pos z] at e6; exact e6
  · rw [if_neg z] at e6; exact e6
end

/-! an hour comes (class), the whole of it -/
theorem mem_srt {C : mCy} (ho : okC C) {d : Int × Int × Int} : d ∈ srt (cn C).toNat (cd C) ↔ d ∈ cd C := by
  refine ⟨srt_mem, fun h => ?_⟩
  have q := (ho.2.2.1.2 d h).1
  unfold srt
  refine List.mem_flatMap.mpr ⟨d.1.toNat, List.mem_range.mpr (by omega), List.mem_filter.mpr ⟨h, by simp; omega⟩⟩
theorem bmk.cg {x : Int} {P Q : Int → Prop} (h : bmk x P) (e : ∀ l, 0 ≤ l → l < 10 → (P l ↔ Q l)) : bmk x Q :=
  ⟨h.1, fun l a b => (h.2 l a b).trans (not_congr (e l a b))⟩
def kS0 (V : mV) (cr : Nat) (S : mSt) : Prop := ((gI V (cr + 5) 1 = 2 ∧ rc V (cr + 5) 0 = S.2.1.1 ∧ rc V (cr + 5) 1 = S.2.1.2) ∨ gI V (cr + 5) 1 = 0) ∧
  ((S.2.2.1.2.1 = -1 ∧ gI V (cr + 7) 1 = 0) ∨ (S.2.2.1.2.1 ≠ -1 ∧ rw' V (cr + 7) 3 (fun k => if k = 0 then S.2.2.1.1 else if k = 1 then S.2.2.1.2.1 else S.2.2.1.2.2)))
theorem kS0.fr {Z : Nat → Prop} {V V1 : mV} {cr : Nat} {S : mSt} (h : kS0 V cr S) (k : fr Z V V1) (hZ : ∀ i, cr + 5 ≤ i → i ≤ cr + 8 → ¬ Z i) : kS0 V1 cr S := by
  obtain ⟨a, b⟩ := h
  refine ⟨?_, ?_⟩
  · rw [k.I (hZ _ (by omega) (by omega)), rc_fr k (hZ _ (by omega) (by omega))]; exact a
  · rw [k.I (hZ _ (by omega) (by omega))]
    rcases b with b | ⟨b1, b2⟩
    · exact Or.inl b
    · exact Or.inr ⟨b1, b2.fr k (hZ _ (by omega) (by omega)) (hZ _ (by omega) (by omega))⟩
theorem kS.to0 {V : mV} {cr : Nat} {n : Int} {S : mSt} (h : kS V cr n S) : kS0 V cr S := ⟨h.1, h.2.1⟩
theorem rw_fill {G : mG} {V : mV} {r cap : Nat} {n v : Int} (hr : is7 G r) (hq : qG G (r + 1) = cap) (hn : 0 ≤ n ∧ n ≤ (cap : Int)) : ∃ V', F_X7_fill G r n v V = some (V', 0) ∧ fr (fun i => i = r ∨ i = r + 1) V V' ∧ rw' V' r n (fun _ => v) := by
  have hc := s7_c hr
  refine ⟨_, p7_fill hr ⟨by omega, by omega⟩, fr_rfill (Or.inr rfl) (Or.inl rfl), ?_, fun j h0 h1 => ?_⟩
  · rw [hq]
    show gI (sI V r 1 (min (max n 0) (cap : Int))) r 1 = n
    rw [gI_sI, if_pos ⟨rfl, rfl⟩]; omega
  · show gA (rfill V r (qG G (r + 1)) n v) (r + 1) j.toNat = v
    rw [gA_rfill, if_pos rfl, hq, if_pos (by omega)]
theorem okM_night {C : mCy} {M : mMo} {day : Int} (h : okM (cn C) M) : okM (cn C) (nightM C M day) := by
  refine ⟨h.1, fun p a b => ?_, fun p q a1 a2 b1 b2 e _ => e, h.2.2.2.1, fun p l a b c d => ?_, fun p a b => ?_, h.2.2.2.2.2.2⟩
  · show -1 ≤ p ∧ p < cn C; omega
  · show 0 ≤ (if p = l then mp M p l else _) ∧ (if p = l then mp M p l else _) ≤ 99
    split
    · exact h.2.2.2.2.1 p l a b c d
    · exact made_rg (h.2.2.2.2.1 p l a b c d)
  · show (if p = p then mp M p p else _) = 99
    rw [if_pos rfl]; exact h.2.2.2.2.2.1 p a b
def stD (C : mCy) (clock day : Int) (S : mSt) (d : Int × Int × Int) : mSt := if d.2.2 = clock then dutyS C clock day S d.1 d.2.1 else S
section
variable {G : mG} {V : mV} {cr c mo : Nat} {C : mCy} {B : Int} {S : mSt}
theorem vM.more {U : mV} {M : mMo} {n b b' : Int} (h : vM U mo n M b) (hb : b ≤ b') : vM U mo n M b' :=
  ⟨h.1, h.2.1, h.2.2.1, h.2.2.2.1, ⟨h.2.2.2.2.1.1, Int.le_trans h.2.2.2.2.1.2 hb⟩, h.2.2.2.2.2⟩
theorem c_duties (hG : is2 G cr) (hc : is1 G c) (hm : is4 G mo) (ho : okC C) (hv : vC V c C) (hk : kC V cr) (hmo : cr + 10 < mo) (hd : mo + 8 < c) (hM : vM V mo (cn C) S.1 B) (hB : B ≤ 99990000) (hoM : okM (cn C) S.1) (hS : kS V cr (cn C) S) {clock day : Int} (hck : 0 ≤ clock ∧ clock < 24) (htm : tmK V cr clock day) :
    Wp (lp (fun (s : Int × Int) V => B_X2_comes_56 G cr c mo clock s.1 s.2 V) FU (0, 0) V) (fun V' q => fr (sD cr c mo) V V' ∧ vC V' c C ∧ kC V' cr ∧ tmK V' cr clock day ∧ bmk q.2.1 (busy C clock) ∧ ∃ S', S' = (srt (cn C).toNat (cd C)).foldl (stD C clock day) S ∧ vM V' mo (cn C) S'.1 (B + 240) ∧ okM (cn C) S'.1 ∧ kS V' cr (cn C) S') := by
  have hn := ho.1
  have hD := ho.2.2.1
  have hlen := srt_len (cn C).toNat (cd C)
  generalize hDD : srt (cn C).toNat (cd C) = D at hlen ⊢
  have hmem : ∀ d, d ∈ D ↔ d ∈ cd C := fun d => by rw [← hDD]; exact mem_srt ho
  have vd : ∀ {U}, vC U c C → vD U c D := fun h => by rw [← hDD]; exact h.2.2.2.1
  refine W_lp (fun w s U => ∃ k : Nat, s.2 = (k : Int) ∧ k + w = D.length ∧ bmk s.1 (fun l => ∃ d ∈ D.take k, d.2.2 = clock ∧ d.1 = l) ∧ fr (sD cr c mo) V U ∧ vC U c C ∧ kC U cr ∧ tmK U cr clock day ∧ ∃ Sk, vM U mo (cn C) Sk.1 (B + 10 * k) ∧ okM (cn C) Sk.1 ∧ kS U cr (cn C) Sk ∧ (D.drop k).foldl (stD C clock day) Sk = D.foldl (stD C clock day) S) ?_ FU D.length (0, 0) V ⟨0, rfl, by omega, bmk_0 (by rintro l ⟨d, h, -⟩; simp at h), fr_refl, hv, hk, htm, S, by simpa using hM, hoM, hS, by simp⟩ (by unfold FU; omega)
  rintro w ⟨x, kk⟩ U ⟨k, hkk, hkw, hx, hf, hvU, hkU, htU, Sk, hMk, hok, hSk, hfold⟩
  simp only at hkk
  subst hkk
  obtain ⟨d1, d2, d3⟩ := vd hvU
  unfold B_X2_comes_56
  refine W_be p7_size (W_gd ⟨by omega, by omega⟩ (W_gd (by rw [d3.1]; exact ⟨by omega, by omega⟩) ?_))
  rw [d3.1]
  refine W_if (fun q => W_so (Or.inr ⟨Nat.one_ne_zero, hf, hvU, hkU, htU, ?_, Sk, ?_, hMk.more (by omega), hok, hSk⟩)) (fun q => ?_)
  · have e : k = D.length := by omega
    rw [e, List.take_length] at hx
    exact hx.cg (fun l _ _ => ⟨fun ⟨d, a, b, c⟩ => ⟨d, (hmem d).mp a, c, b⟩, fun ⟨d, a, b, c⟩ => ⟨d, (hmem d).mpr a, c, b⟩⟩)
  · have e : k = D.length := by omega
    rw [e, List.drop_length] at hfold
    exact hfold
  · have hkl : k < D.length := by omega
    have hdk : D.getD k d0 = D[k] := by rw [List.getD_eq_getElem?_getD, List.getElem?_eq_getElem hkl]; rfl
    have hdm : D[k] ∈ cd C := (hmem _).mp (List.getElem_mem hkl)
    obtain ⟨od1, od2, od3⟩ := hD.2 _ hdm
    have hdrop : D.drop k = D[k] :: D.drop (k + 1) := List.drop_eq_getElem_cons hkl
    rw [hdrop] at hfold
    have hfold' : (D.drop (k + 1)).foldl (stD C clock day) (stD C clock day Sk D[k]) = D.foldl (stD C clock day) S := hfold
    have htake : ∀ d, d ∈ D.take (k + 1) ↔ d ∈ D.take k ∨ d = D[k] := by
      intro d
      rw [List.take_succ, List.getElem?_eq_getElem hkl]
      simp only [Option.toList_some, List.mem_append, List.mem_singleton]
    have r15 : F_X7_get G (c + 15) (k : Int) U = some (U, D[k].1) := by
      rw [rw_get (s1_7s hc) (s1_7c hc) d1 (by omega) ⟨by omega, by omega⟩]
      simp only [Int.toNat_natCast, hdk]
    have r17 : F_X7_get G (c + 17) (k : Int) U = some (U, D[k].2.1) := by
      rw [rw_get (s1_8s hc) (s1_8c hc) d2 (by omega) ⟨by omega, by omega⟩]
      simp only [Int.toNat_natCast, hdk]
    have r19 : F_X7_get G (c + 19) (k : Int) U = some (U, D[k].2.2) := by
      rw [rw_get (s1_9s hc) (s1_9c hc) d3 (by omega) ⟨by omega, by omega⟩]
      simp only [Int.toNat_natCast, hdk]
    refine W_be r19 (W_gd ⟨by omega, by omega⟩ (W_gd ⟨by omega, by omega⟩ (W_if (fun e => ?_) (fun e => ?_))))
    · have hx0 := hx.1
      have hsl := shl1_lt od1.1 (show D[k].1 < 10 by omega)
      obtain ⟨U1, g1, f1, v1, k1, t1, m1, o1, s1⟩ := c_meet hG hc hm ho hvU hkU hmo hd hMk (by omega) hok hSk od1 od2 htU
      have hst : stD C clock day Sk D[k] = dutyS C clock day Sk D[k].1 D[k].2.1 := by unfold stD; rw [if_pos e]
      refine W_be r15 (W_gd ⟨by omega, by omega⟩ (W_gd ⟨by omega, by omega⟩ (W_lt (W_be r15 (W_be r17 (W_be g1 (W_lt (W_so (Or.inl ⟨rfl, w - 1, by omega, k + 1, by show (k : Int) + 1 = _; omega, by omega, ?_, hf.trans f1, v1, k1, t1, dutyS C clock day Sk D[k].1 D[k].2.1, m1.more (by omega), o1, s1, by rw [← hst]; exact hfold'⟩)))))))))
      refine (bmk_or hx od1.1 (by omega)).cg (fun l _ _ => ⟨?_, ?_⟩)
      · rintro (⟨d, a, b⟩ | a)
        · exact ⟨d, (htake d).mpr (Or.inl a), b⟩
        · exact ⟨D[k], (htake _).mpr (Or.inr rfl), e, a.symm⟩
      · rintro ⟨d, a, b1, b2⟩
        rcases (htake d).mp a with a | a
        · exact Or.inl ⟨d, a, b1, b2⟩
        · subst a; exact Or.inr b2.symm
    · have hst : stD C clock day Sk D[k] = Sk := by unfold stD; rw [if_neg e]
      refine W_lt (W_so (Or.inl ⟨rfl, w - 1, by omega, k + 1, by show (k : Int) + 1 = _; omega, by omega, ?_, hf, hvU, hkU, htU, Sk, hMk.more (by omega), hok, hSk, by rw [hst] at hfold'; exact hfold'⟩))
      refine hx.cg (fun l _ _ => ⟨?_, ?_⟩)
      · rintro ⟨d, a, b⟩
        exact ⟨d, (htake d).mpr (Or.inl a), b⟩
      · rintro ⟨d, a, b1, b2⟩
        rcases (htake d).mp a with a | a
        · exact ⟨d, a, b1, b2⟩
        · subst a; exact absurd b1 e
theorem watM_id {clock day : Int} (h : co C 0 = []) (p : Int) (M : mMo) : watM C clock day p M = M := by
  unfold watM
  by_cases q : mw M p ≠ -1 ∧ ml M p ≠ -1 ∧ ¬ busy C clock (ml M p)
  · rw [if_pos q]
    have e : ug (mp M) p (mw M p) (made C 0 p (mw M p) (mp M p (mw M p)) clock day) = mp M := by
      funext a b
      unfold ug made
      rw [if_pos h]
      by_cases w : a = p ∧ b = mw M p
      · rw [if_pos w, w.1, w.2]
      · rw [if_neg w]
    rw [e]; rfl
  · rw [if_neg q]
theorem itr_id {α : Type} {f : Int → α → α} (h : ∀ k a, f k a = a) : ∀ (m : Nat) (k : Int) (a : α), itr f k m a = a
  | 0, _, _ => rfl
  | m + 1, k, a => by unfold itr; rw [h k a]; exact itr_id h m (k + 1) a
theorem c_comes (hG : is2 G cr) (hc : is1 G c) (hm : is4 G mo) (ho : okC C) (hv : vC V c C) (hk : kC V cr) (hmo : cr + 10 < mo) (hd : mo + 8 < c) (hM : vM V mo (cn C) S.1 B) (hB : B ≤ 99990000) (hoM : okM (cn C) S.1) (hh : mh S.1 ≤ 9998) (hS : kS0 V cr S) :
    ∃ V', F_X2_comes G cr c mo V = some (V', 0) ∧ fr (sH cr c mo) V V' ∧ vC V' c C ∧ kC V' cr ∧ vM V' mo (cn C) (hourS C (S.1, S.2.1, S.2.2.1, fun _ => 0)).1 (B + 240) ∧ okM (cn C) (hourS C (S.1, S.2.1, S.2.2.1, fun _ => 0)).1 ∧ kS V' cr (cn C) (hourS C (S.1, S.2.1, S.2.2.1, fun _ => 0)) := by
  have hn := ho.1
  have hh0 := hoM.1
  have hgh : gI V mo 0 = mh S.1 := hM.1
  obtain ⟨tm1, tm2⟩ := tm24 (h := mh S.1 + 1) (by omega)
  let M1 : mMo := (mh S.1 + 1, ml S.1, mw S.1, mp S.1, me S.1)
  have oM1 : okM (cn C) M1 := ⟨⟨by show 0 ≤ mh S.1 + 1; omega, by show mh S.1 + 1 ≤ 9999; omega⟩, hoM.2⟩
  have f1 : fr (fun i => i = mo) V (sI V mo 0 (mh S.1 + 1)) := fr_sI rfl
  have m1 : vM (sI V mo 0 (mh S.1 + 1)) mo (cn C) M1 B := by
    obtain ⟨a, b, c1, d, e, f⟩ := hM
    have g5 : gI (sI V mo 0 (mh S.1 + 1)) mo 5 = gI V mo 5 := by rw [gI_sI, if_neg (by rintro ⟨-, q⟩; cases q)]
    refine ⟨by rw [gI_sI, if_pos ⟨rfl, rfl⟩]; rfl, b.fr f1 (by omega) (by omega), c1.fr f1 (by omega) (by omega), d.fr f1 (by omega) (by omega), by rw [g5]; exact e, ?_⟩
    rw [g5]; exact f.fr f1 (by omega) (by omega)
  obtain ⟨V2, e2, k2, f2, t2⟩ := c_time hG (hk.fr f1 (by omega) (by omega)) (a := (mh S.1 + 1) % 24) (b := (mh S.1 + 1) / 24) ⟨by omega, by omega⟩ ⟨by omega, by omega⟩
  obtain ⟨V3, e3, f3, r3⟩ := rw_fill (V := V2) (v := 0) (s2_5s hG) (s2_5c hG) (n := 10) ⟨by decide, by decide⟩
  have F3 : fr (sH cr c mo) V V3 := ((f1.mono (fun i q => by simp only [sH, isSk]; omega)).trans (f2.mono (fun i q => by simp only [sH, isSk]; omega))).trans (f3.mono (fun i q => by simp only [sH, isSk]; omega))
  have v3 := ((hv.fr f1 (fun i a b _ => by omega)).fr f2 (fun i a b _ => by omega)).fr f3 (fun i a b _ => by omega)
  have k3 := k2.fr f3 (by omega) (by omega)
  have t3 := t2.fr f3 (by omega)
  have m3 := (m1.fr f2 (fun i a b => by omega)).fr f3 (fun i a b => by omega)
  have s3 : kS0 V3 cr S := ((hS.fr f1 (fun i a b => by omega)).fr f2 (fun i a b => by omega)).fr f3 (fun i a b => by omega)
  let M2 : mMo := if (mh S.1 + 1) % 24 = 0 then nightM C M1 ((mh S.1 + 1) / 24) else M1
  -- behind the night
  have rest : ∀ V4, fr (sH cr c mo) V V4 → vC V4 c C → kC V4 cr → tmK V4 cr ((mh S.1 + 1) % 24) ((mh S.1 + 1) / 24) → vM V4 mo (cn C) M2 B → kS V4 cr (cn C) (M2, S.2.1, S.2.2.1, fun _ => 0) → ∃ V', F_X2_comes_J50 G cr c mo ((mh S.1 + 1) % 24) V4 = some (V', 0) ∧ fr (sH cr c mo) V V' ∧ vC V' c C ∧ kC V' cr ∧ vM V' mo (cn C) (hourS C (S.1, S.2.1, S.2.2.1, fun _ => 0)).1 (B + 240) ∧ okM (cn C) (hourS C (S.1, S.2.1, S.2.2.1, fun _ => 0)).1 ∧ kS V' cr (cn C) (hourS C (S.1, S.2.1, S.2.2.1, fun _ => 0)) := by
    intro V4 F4 v4 k4 t4 m4 s4
    have oM2 : okM (cn C) M2 := by
      show okM (cn C) (if (mh S.1 + 1) % 24 = 0 then nightM C M1 ((mh S.1 + 1) / 24) else M1)
      split
      · exact okM_night oM1
      · exact oM1
    obtain ⟨V5, q, e5, f5, v5, k5, t5, b5, S', hS', m5, o5, s5⟩ := c_duties (S := (M2, S.2.1, S.2.2.1, fun _ => 0)) hG hc hm ho v4 k4 hmo hd m4 hB oM2 s4 (clock := (mh S.1 + 1) % 24) (day := (mh S.1 + 1) / 24) ⟨by omega, by omega⟩ t4
    have hhr : hourS C (S.1, S.2.1, S.2.2.1, fun _ => 0) = (itr (watM C ((mh S.1 + 1) % 24) ((mh S.1 + 1) / 24)) 0 (cn C).toNat S'.1, S'.2) := by rw [hS']; rfl
    have hmh : mh S'.1 = mh S.1 + 1 := by
      have q1 : ∀ (D : List (Int × Int × Int)) (S0 : mSt), mh S0.1 = mh S.1 + 1 → mh (D.foldl (stD C ((mh S.1 + 1) % 24) ((mh S.1 + 1) / 24)) S0).1 = mh S.1 + 1 := by
        intro D
        induction D with
        | nil => intro S0 h; exact h
        | cons d D ih =>
          intro S0 h
          refine ih _ ?_
          unfold stD
          split
          · have q2 : ∀ (m : Nat) (k : Int) (M : mMo) (a b c1 d1 : Int), mh (itr (noteM C a b c1 d1) k m M) = mh M := by
              intro m
              induction m with
              | zero => intro k M a b c1 d1; rfl
              | succ m ih2 => intro k M a b c1 d1; unfold itr; rw [ih2]; unfold noteM; split <;> rfl
            unfold dutyS
            simp only
            (repeat' split) <;> first | exact h | (show mh (itr _ _ _ _) = _; rw [q2]; exact h)
          · exact h
      rw [hS']
      refine q1 _ _ ?_
      show mh (if (mh S.1 + 1) % 24 = 0 then nightM C M1 ((mh S.1 + 1) / 24) else M1) = mh S.1 + 1
      split <;> rfl
    have F5 : fr (sH cr c mo) V V5 := F4.trans (f5.mono (fun i q => by simp only [sH, sD, isSk] at q ⊢; omega))
    rw [hhr]
    by_cases hcs : co C 0 = []
    · rw [itr_id (fun k a => watM_id hcs k a)]
      refine ⟨V5, ?_, F5, v5, k5, m5, o5, s5⟩
      unfold F_X2_comes_J50
      refine E_bd e5 (E_bd (p3_told v5.1.1) ?_)
      rw [if_pos hcs]
      exact E_gd (by decide) (E_if (fun _ => rfl) (fun q => absurd rfl q))
    · obtain ⟨V6, e6, f6, v6, k6, m6, o6⟩ := c_watch hG hc hm ho v5 k5 hmo hd m5 o5 b5 ⟨by rw [hmh], by rw [hmh]⟩ t5
      refine ⟨V6, ?_, F5.trans (f6.mono (fun i q => by simp only [sH, sW, isSk] at q ⊢; omega)), v6, k6, m6, o6, (s5.fr f6 (fun i a b => by simp only [sW, isSk]; omega)).mom _⟩
      unfold F_X2_comes_J50
      refine E_bd e5 (E_bd (p3_told v5.1.1) ?_)
      rw [if_neg hcs]
      exact E_gd (by decide) (E_if (fun q => absurd q (by decide)) (fun _ => E_bd e6 rfl))
  have g1 : gI (sI V mo 0 (gI V mo 0 + 1)) mo 0 = mh S.1 + 1 := by rw [gI_sI, if_pos ⟨rfl, rfl⟩, hgh]
  have hs3 : kS V3 cr (cn C) (M1, S.2.1, S.2.2.1, fun _ => 0) := ⟨s3.1, s3.2, r3, hn.2⟩
  by_cases hnight : (mh S.1 + 1) % 24 = 0
  · have hM2 : M2 = nightM C M1 ((mh S.1 + 1) / 24) := if_pos hnight
    rw [hnight] at t3
    obtain ⟨V4, e4, f4, v4, k4, t4, m4⟩ := c_night hG hc hm ho v3 k3 hmo hd m3 oM1 t3
    obtain ⟨V', e', h'⟩ := rest V4 (F3.trans (f4.mono (fun i q => by simp only [sH, sW, isSk] at q ⊢; omega))) v4 k4 (by rw [hnight]; exact t4) (by rw [hM2]; exact m4) ((hs3.fr f4 (fun i a b => by simp only [sW, isSk]; omega)).mom _)
    refine ⟨V', ?_, h'⟩
    unfold F_X2_comes
    refine E_lt (E_gd (by rw [g1]; exact ⟨by omega, by omega⟩) (E_lt ?_))
    rw [g1, tm1, tm2, hgh]
    exact E_bd e2 (E_bd e3 (E_gd ⟨by omega, by omega⟩ (E_if (fun _ => E_bd e4 e') (fun q => absurd hnight q))))
  · have hM2 : M2 = M1 := if_neg hnight
    obtain ⟨V', e', h'⟩ := rest V3 F3 v3 k3 t3 (by rw [hM2]; exact m3) (by rw [hM2]; exact hs3)
    refine ⟨V', ?_, h'⟩
    unfold F_X2_comes
    refine E_lt (E_gd (by rw [g1]; exact ⟨by omega, by omega⟩) (E_lt ?_))
    rw [g1, tm1, tm2, hgh]
    exact E_bd e2 (E_bd e3 (E_gd ⟨by omega, by omega⟩ (E_if (fun q => absurd q hnight) (fun _ => e'))))
end

/-! the reference: an hour comes, the whole of it -/
theorem mh_stD {C : mCy} {clock day : Int} : ∀ (D : List (Int × Int × Int)) (S : mSt), mh (D.foldl (stD C clock day) S).1 = mh S.1
  | [], _ => rfl
  | d :: D, S => by
    show mh (D.foldl (stD C clock day) (stD C clock day S d)).1 = _
    rw [mh_stD D]; unfold stD; split
    · exact mh_duty
    · rfl
theorem okM_stD {C : mCy} {clock day : Int} : ∀ (D : List (Int × Int × Int)) (S : mSt), okM (cn C) S.1 → okM (cn C) (D.foldl (stD C clock day) S).1
  | [], _, h => h
  | d :: D, S, h => by
    show okM _ (D.foldl (stD C clock day) (stD C clock day S d)).1
    refine okM_stD D _ ?_
    unfold stD; split
    · exact okM_duty h
    · exact h
theorem mh_wat {C : mCy} {a b : Int} : ∀ (m : Nat) (k : Int) (M : mMo), mh (itr (watM C a b) k m M) = mh M
  | 0, _, _ => rfl
  | m + 1, k, M => by unfold itr; rw [mh_wat m]; unfold watM; split <;> rfl
theorem okM_wat {C : mCy} {a b : Int} : ∀ (m : Nat) (k : Int) (M : mMo), 0 ≤ k → k + m ≤ cn C → okM (cn C) M → okM (cn C) (itr (watM C a b) k m M)
  | 0, _, _, _, _, h => h
  | m + 1, k, M, h0, h1, h => by unfold itr; exact okM_wat m _ _ (by omega) (by omega) (watM_ok h ⟨h0, by omega⟩)
theorem mh_hour {C : mCy} {S : mSt} : mh (hourS C S).1 = mh S.1 + 1 := by
  unfold hourS
  simp only
  rw [mh_wat]
  show mh (List.foldl (stD C _ _) _ _).1 = _
  rw [mh_stD]
  show mh (if _ then _ else _) = _
  split <;> rfl
theorem okM_hour {C : mCy} {S : mSt} (ho : okC C) (h : okM (cn C) S.1) (hh : mh S.1 ≤ 9998) : okM (cn C) (hourS C S).1 := by
  have hn := ho.1
  have hh0 := h.1
  unfold hourS
  simp only
  refine okM_wat _ _ _ (by omega) (by omega) ?_
  show okM _ (List.foldl (stD C _ _) _ _).1
  refine okM_stD _ _ ?_
  have o1 : okM (cn C) (mh S.1 + 1, ml S.1, mw S.1, mp S.1, me S.1) := ⟨⟨by show 0 ≤ mh S.1 + 1; omega, by show mh S.1 + 1 ≤ 9999; omega⟩, h.2⟩
  show okM _ (if _ then _ else _)
  split
  · exact okM_night o1
  · exact o1
section
variable {G : mG} {V : mV} {m : Nat} {C : mCy} {M : mMo} {S : mSt}
theorem r_has (ho : okC C) (hv : rC V m C) {l clock : Int} (hl : rg l) (hck : rg clock) : ∃ r, F_X10_hasDuty G m l clock V = some (V, r) ∧ ((r = 1 ∧ busy C clock l) ∨ (r = 0 ∧ ¬ busy C clock l)) := by
  have hD := ho.2.2.1
  have key : Wp (lp (fun (s : Int) V => B_X10_hasDuty_2 G m l clock s V) FU 0 V) (fun V' q => V' = V ∧ ((q.1 = 1 ∧ busy C clock l) ∨ (q.1 = 2 ∧ ¬ busy C clock l))) := by
    refine W_lp (fun w kk U => U = V ∧ ∃ k : Nat, kk = (k : Int) ∧ k + w = (cd C).length ∧ ∀ d ∈ (cd C).take k, ¬ (d.1 = l ∧ d.2.2 = clock)) ?_ FU (cd C).length 0 V ⟨rfl, 0, rfl, by omega, by simp⟩ (by unfold FU; omega)
    rintro w kk U ⟨rfl, k, rfl, hkw, hno⟩
    unfold B_X10_hasDuty_2
    refine W_be (r_dmany hv) (W_gd ⟨by omega, by omega⟩ (W_gd ⟨by omega, by omega⟩ (W_if (fun q => W_so (Or.inr ⟨by show (2 : Nat) ≠ 0; decide, rfl, Or.inr ⟨rfl, ?_⟩⟩)) (fun q => ?_))))
    · rintro ⟨d, hd, e⟩
      have e2 : k = (cd C).length := by omega
      rw [e2, List.take_length] at hno
      exact hno d hd e
    · have hkl : k < (cd C).length := by omega
      obtain ⟨r0, r1, r2⟩ := r_duty (G := G) ho hv hkl
      have hdk : (cd C).getD k d0 = (cd C)[k] := by rw [List.getD_eq_getElem?_getD, List.getElem?_eq_getElem hkl]; rfl
      have hdm : (cd C)[k] ∈ cd C := List.getElem_mem hkl
      obtain ⟨o1, o2, o3⟩ := hD.2 _ hdm
      have hn := ho.1
      rw [hdk] at r0 r2
      have htake : ∀ d, d ∈ (cd C).take (k + 1) ↔ d ∈ (cd C).take k ∨ d = (cd C)[k] := by
        intro d
        rw [List.take_succ, List.getElem?_eq_getElem hkl]
        simp only [Option.toList_some, List.mem_append, List.mem_singleton]
      have next : ¬ ((cd C)[k].1 = l ∧ (cd C)[k].2.2 = clock) → ∀ d ∈ (cd C).take (k + 1), ¬ (d.1 = l ∧ d.2.2 = clock) := by
        intro h d hd
        rcases (htake d).mp hd with a | a
        · exact hno d a
        · subst a; exact h
      refine W_be r0 (W_gd ⟨by omega, by omega⟩ (W_gd hl (W_if (fun e1 => W_be r2 (W_gd ⟨by omega, by omega⟩ (W_gd hck (W_if (fun e2 => ?_) (fun e2 => ?_))))) (fun e1 => ?_))))
      · exact W_so (Or.inr ⟨Nat.one_ne_zero, rfl, Or.inl ⟨rfl, _, hdm, e1, e2⟩⟩)
      · exact W_lt (W_so (Or.inl ⟨rfl, w - 1, by omega, rfl, k + 1, by show (k : Int) + 1 = _; omega, by omega, next (fun h => e2 h.2)⟩))
      · exact W_lt (W_so (Or.inl ⟨rfl, w - 1, by omega, rfl, k + 1, by show (k : Int) + 1 = _; omega, by omega, next (fun h => e1 h.1)⟩))
  obtain ⟨V', q, e, rfl, h⟩ := key
  rcases h with ⟨h1, h2⟩ | ⟨h1, h2⟩
  · refine ⟨1, ?_, Or.inl ⟨rfl, h2⟩⟩
    unfold F_X10_hasDuty
    refine E_bd e ?_
    rw [if_pos h1]
  · refine ⟨0, ?_, Or.inr ⟨rfl, h2⟩⟩
    unfold F_X10_hasDuty
    refine E_bd e ?_
    rw [if_neg (by omega)]
theorem r_duties (ho : okC C) (hv : rC V m C) (hM : rM (gA V (m + 37)) (cn C) S.1) (hoM : okM (cn C) S.1) (hS : rS V m S) {clock day : Int} (hck : 0 ≤ clock ∧ clock < 24) (hday : day = mh S.1 / 24) :
    Wp (lp (fun (s : Int) V => B_X10_hourComes_30 G m clock s V) FU 0 V) (fun V' _ => rH m V V' ∧ rM (gA V' (m + 37)) (cn C) ((srt (cn C).toNat (cd C)).foldl (stD C clock day) S).1 ∧ rS V' m ((srt (cn C).toNat (cd C)).foldl (stD C clock day) S)) := by
  have hn := ho.1
  have hD := ho.2.2.1
  refine W_lp (fun w x U => ∃ l : Nat, x = (l : Int) ∧ l + w = (cn C).toNat ∧ rH m V U ∧ rM (gA U (m + 37)) (cn C) ((srt l (cd C)).foldl (stD C clock day) S).1 ∧ rS U m ((srt l (cd C)).foldl (stD C clock day) S)) ?_ FU (cn C).toNat 0 V ⟨0, rfl, by omega, rH_refl, hM, hS⟩ (by unfold FU; omega)
  rintro w x U ⟨l, rfl, hlw, hf, hMU, hSU⟩
  have hvU := hv.fr hf.cs
  unfold B_X10_hourComes_30
  refine W_be (r_many hvU) (W_gd ⟨by omega, by omega⟩ (W_gd ⟨by omega, by omega⟩ (W_if (fun q => W_so (Or.inr ⟨Nat.one_ne_zero, hf, ?_⟩)) (fun q => ?_))))
  · have : l = (cn C).toNat := by omega
    subst this
    exact ⟨hMU, hSU⟩
  · have inner : Wp (lp (fun (s : Int) V => B_X10_hourComes_40 G m clock (l : Int) s V) FU 0 U) (fun V' _ => rH m V V' ∧ rM (gA V' (m + 37)) (cn C) ((srt (l + 1) (cd C)).foldl (stD C clock day) S).1 ∧ rS V' m ((srt (l + 1) (cd C)).foldl (stD C clock day) S)) := by
      let St : Nat → mSt := fun k => (((cd C).take k).filter (fun d => decide (d.1 = (l : Int)))).foldl (stD C clock day) ((srt l (cd C)).foldl (stD C clock day) S)
      refine W_lp (fun w x U => ∃ k : Nat, x = (k : Int) ∧ k + w = (cd C).length ∧ rH m V U ∧ rM (gA U (m + 37)) (cn C) (St k).1 ∧ rS U m (St k)) ?_ FU (cd C).length 0 U ⟨0, rfl, by omega, hf, by simpa [St] using hMU, by simpa [St] using hSU⟩ (by unfold FU; omega)
      rintro w2 x U2 ⟨k, rfl, hkw, hf2, hM2, hS2⟩
      have hv2 := hv.fr hf2.cs
      have hoS : okM (cn C) (St k).1 := okM_stD _ _ (okM_stD _ _ hoM)
      have hmS : mh (St k).1 = mh S.1 := by
        have h1 := mh_stD (C := C) (clock := clock) (day := day) (((cd C).take k).filter (fun d => decide (d.1 = (l : Int)))) ((srt l (cd C)).foldl (stD C clock day) S)
        have h2 := mh_stD (C := C) (clock := clock) (day := day) (srt l (cd C)) S
        exact h1.trans h2
      unfold B_X10_hourComes_40
      refine W_be (r_dmany hv2) (W_gd ⟨by omega, by omega⟩ (W_gd ⟨by omega, by omega⟩ (W_if (fun q2 => W_so (Or.inr ⟨Nat.one_ne_zero, hf2, ?_⟩)) (fun q2 => ?_))))
      · have e : k = (cd C).length := by omega
        have e2 : St k = (srt (l + 1) (cd C)).foldl (stD C clock day) S := by
          show List.foldl _ (List.foldl _ _ _) _ = _
          rw [e, List.take_length, srt_succ, List.foldl_append]
        rw [← e2]; exact ⟨hM2, hS2⟩
      · have hkl : k < (cd C).length := by omega
        obtain ⟨r0, r1, r2⟩ := r_duty (G := G) ho hv2 hkl
        have hdk : (cd C).getD k d0 = (cd C)[k] := by rw [List.getD_eq_getElem?_getD, List.getElem?_eq_getElem hkl]; rfl
        have hdm : (cd C)[k] ∈ cd C := List.getElem_mem hkl
        obtain ⟨o1, o2, o3⟩ := hD.2 _ hdm
        rw [hdk] at r0 r1 r2
        have hst : St (k + 1) = if (cd C)[k].1 = (l : Int) then stD C clock day (St k) (cd C)[k] else St k := by
          show List.foldl _ _ (List.filter _ (List.take (k + 1) _)) = _
          rw [List.take_succ, List.getElem?_eq_getElem hkl, Option.toList_some, List.filter_append, List.foldl_append]
          by_cases e : (cd C)[k].1 = (l : Int)
          · rw [if_pos e, List.filter_cons, if_pos (by simpa using e)]; rfl
          · rw [if_neg e, List.filter_cons, if_neg (by simpa using e)]; rfl
        have next : St (k + 1) = St k → Wp (lt ((k : Int) + 1) fun y => some (U2, (0, y))) (fun (V' : mV) (q : Nat × Int) => (q.1 = 0 ∧ ∃ w', w' < w2 ∧ ∃ k : Nat, q.2 = (k : Int) ∧ k + w' = (cd C).length ∧ rH m V V' ∧ rM (gA V' (m + 37)) (cn C) (St k).1 ∧ rS V' m (St k)) ∨ (q.1 ≠ 0 ∧ rH m V V' ∧ rM (gA V' (m + 37)) (cn C) ((srt (l + 1) (cd C)).foldl (stD C clock day) S).1 ∧ rS V' m ((srt (l + 1) (cd C)).foldl (stD C clock day) S))) := by
          intro e
          exact W_lt (W_so (Or.inl ⟨rfl, w2 - 1, by omega, k + 1, by show (k : Int) + 1 = _; omega, by omega, hf2, by rw [e]; exact hM2, by rw [e]; exact hS2⟩))
        refine W_be r0 (W_gd ⟨by omega, by omega⟩ (W_gd ⟨by omega, by omega⟩ (W_if (fun e1 => W_be r2 (W_gd ⟨by omega, by omega⟩ (W_gd ⟨by omega, by omega⟩ (W_if (fun e2 => ?_) (fun e2 => next ?_))))) (fun e1 => next ?_))))
        · obtain ⟨U3, g3, f3, m3, s3⟩ := r_dutyC (G := G) ho hv2 hM2 hoS hS2 (l := (l : Int)) (task := (cd C)[k].2.1) (clock := clock) ⟨by omega, by omega⟩ o2 hck
          have e3 : St (k + 1) = dutyS C clock (mh (St k).1 / 24) (St k) (l : Int) (cd C)[k].2.1 := by
            rw [hst, if_pos e1]; unfold stD; rw [if_pos e2, e1, hmS, hday]
          exact W_be r1 (W_be g3 (W_lt (W_so (Or.inl ⟨rfl, w2 - 1, by omega, k + 1, by show (k : Int) + 1 = _; omega, by omega, hf2.trans f3, by rw [e3]; exact m3, by rw [e3]; exact s3⟩))))
        · rw [hst, if_pos e1]; unfold stD; rw [if_neg e2]
        · rw [hst, if_neg e1]
    exact W_bd inner (fun U' q' hq => W_lt (W_so (Or.inl ⟨rfl, w - 1, by omega, l + 1, by show (l : Int) + 1 = _; omega, by omega, hq⟩)))
theorem r_watch (ho : okC C) (hv : rC V m C) (hM : rM (gA V (m + 37)) (cn C) M) (hoM : okM (cn C) M) (hS : rS V m S) {clock day : Int} (ht : clock = mh M % 24 ∧ day = mh M / 24) :
    Wp (lp (fun (s : Int) V => B_X10_hourComes_94 G m clock s V) FU 0 V) (fun V' _ => rH m V V' ∧ rS V' m S ∧ rM (gA V' (m + 37)) (cn C) (itr (watM C clock day) 0 (cn C).toNat M)) := by
  have hn := ho.1
  have hh := hoM.1
  refine W_lp (fun w k U => 0 ≤ k ∧ k + w = cn C ∧ rH m V U ∧ rC U m C ∧ rS U m S ∧ ∃ Mk, mh Mk = mh M ∧ rM (gA U (m + 37)) (cn C) Mk ∧ okM (cn C) Mk ∧ itr (watM C clock day) k w Mk = itr (watM C clock day) 0 (cn C).toNat M) ?_ FU (cn C).toNat 0 V ⟨by omega, by omega, rH_refl, hv, hS, M, rfl, hM, hoM, rfl⟩ (by unfold FU; omega)
  rintro w k U ⟨h0, hkw, hf, hvU, hsU, Mk, hmh, hMk, hok, hit⟩
  unfold B_X10_hourComes_94
  refine W_be (r_many hvU) (W_gd ⟨by omega, by omega⟩ (W_gd ⟨by omega, by omega⟩ (W_if (fun q => W_so (Or.inr ⟨Nat.one_ne_zero, hf, hsU, ?_⟩)) (fun q => ?_))))
  · have : w = 0 := by omega
    subst this
    have hit' : Mk = itr (watM C clock day) 0 (cn C).toNat M := hit
    rw [← hit']; exact hMk
  · obtain ⟨w, rfl⟩ : ∃ w', w = w' + 1 := ⟨w - 1, by omega⟩
    have hit' : itr (watM C clock day) (k + 1) w (watM C clock day k Mk) = itr (watM C clock day) 0 (cn C).toNat M := hit
    have hp : 0 ≤ k ∧ k < cn C := ⟨h0, by omega⟩
    have hlv := hok.2.1 k h0 hp.2
    have hwa := hok.2.2.2.1 k h0 hp.2
    have skip : watM C clock day k Mk = Mk → Wp (lt (k + 1) fun y => some (U, (0, y))) (fun (V' : mV) (q : Nat × Int) => (q.1 = 0 ∧ ∃ w', w' < w + 1 ∧ (0 ≤ q.2 ∧ q.2 + w' = cn C ∧ rH m V V' ∧ rC V' m C ∧ rS V' m S ∧ ∃ Mk, mh Mk = mh M ∧ rM (gA V' (m + 37)) (cn C) Mk ∧ okM (cn C) Mk ∧ itr (watM C clock day) q.2 w' Mk = itr (watM C clock day) 0 (cn C).toNat M)) ∨ (q.1 ≠ 0 ∧ rH m V V' ∧ rS V' m S ∧ rM (gA V' (m + 37)) (cn C) (itr (watM C clock day) 0 (cn C).toNat M))) := by
      intro e
      exact W_lt (W_so (Or.inl ⟨rfl, w, by omega, by show 0 ≤ k + 1; omega, by show k + 1 + (w : Int) = cn C; omega, hf, hvU, hsU, Mk, hmh, hMk, hok, by rw [e] at hit'; exact hit'⟩))
    have wt := r_wat (G := G) hMk (by omega) hp
    have lv := r_lives (G := G) hMk (by omega) hp
    obtain ⟨r, g0, hr⟩ := r_has (G := G) ho hvU (l := ml Mk k) (clock := clock) ⟨by omega, by omega⟩ ⟨by omega, by omega⟩
    refine W_be wt (W_gd ⟨by omega, by omega⟩ (W_if (fun e => skip ?_) (fun e1 => W_be lv (W_gd ⟨by omega, by omega⟩ (W_if (fun e => skip ?_) (fun e2 => W_be lv (W_be g0 (W_gd (by rcases hr with ⟨h, -⟩ | ⟨h, -⟩ <;> rw [h] <;> decide) (W_if (fun e3 => ?_) (fun e3 => skip ?_))))))))))
    · unfold watM; rw [if_neg (fun q => q.1 e)]
    · unfold watM; rw [if_neg (fun q => q.2.1 e)]
    · have hnb : ¬ busy C clock (ml Mk k) := by
        rcases hr with ⟨h, -⟩ | ⟨-, h⟩
        · omega
        · exact h
      have hl : 0 ≤ mw Mk k ∧ mw Mk k < cn C := ⟨by omega, by omega⟩
      have hpt := hok.2.2.2.2.1 k (mw Mk k) h0 hp.2 hl.1 hl.2
      obtain ⟨U1, g1, f1⟩ := r_made (G := G) ho hvU (w := 0) (Or.inl rfl) hp hl hpt (clock := clock) ⟨by omega, by omega⟩ (day := day) ⟨by omega, by omega⟩
      have h00 : gA U (m + 37) 0 = mh M := by rw [hMk.1, hmh]
      have f2 : rH m U1 (sA U1 (m + 37) (3 + 12 * k + mw Mk k).toNat (made C 0 k (mw Mk k) (mp Mk k (mw Mk k)) clock day)) := rH_sA (Or.inl rfl)
      have hwe : watM C clock day k Mk = (mh Mk, ml Mk, mw Mk, ug (mp Mk) k (mw Mk k) (made C 0 k (mw Mk k) (mp Mk k (mw Mk k)) clock day), me Mk) := by unfold watM; rw [if_pos ⟨e1, e2, hnb⟩]
      have hok2 := watM_ok (clock := clock) (day := day) hok hp
      have m2 : rM (gA (sA U1 (m + 37) (3 + 12 * k + mw Mk k).toNat (made C 0 k (mw Mk k) (mp Mk k (mw Mk k)) clock day)) (m + 37)) (cn C) (watM C clock day k Mk) := by
        rw [gA_sAe, f1.1, hwe]; exact rM_setP hMk (by omega) hp hl
      have hmh2 : mh (watM C clock day k Mk) = mh M := by rw [hwe]; exact hmh
      refine W_be wt (W_be wt (W_be wt (W_be (r_pts hMk (by omega) hp hl) ?_)))
      rw [h00, (tm24 hh.1).2, ← ht.2]
      refine W_gd ⟨by omega, by omega⟩ (W_be g1 (W_be (r_knows (n := cn C) (by omega) hp hl) (W_lt (W_so (Or.inl ⟨rfl, w, by omega, by show 0 ≤ k + 1; omega, by show k + 1 + (w : Int) = cn C; omega, (hf.trans f1.H).trans f2, (hvU.fr f1.cs).fr f2.cs, (hsU.T f1).nowA, _, hmh2, m2, hok2, hit'⟩)))))
    · unfold watM
      rw [if_neg]
      rintro ⟨-, -, q⟩
      rcases hr with ⟨-, h⟩ | ⟨h, -⟩
      · exact q h
      · exact e3 h
theorem r_hour (ho : okC C) (hv : rC V m C) (hM : rM (gA V (m + 37)) (cn C) S.1) (hoM : okM (cn C) S.1) (hh : mh S.1 ≤ 9998) (hS : rS V m S) :
    ∃ V', F_X10_hourComes G m V = some (V', 0) ∧ rH m V V' ∧ rM (gA V' (m + 37)) (cn C) (hourS C S).1 ∧ rS V' m (hourS C S) := by
  have hh0 := hoM.1
  obtain ⟨tm1, tm2⟩ := tm24 (h := mh S.1 + 1) (by omega)
  let M1 : mMo := (mh S.1 + 1, ml S.1, mw S.1, mp S.1, me S.1)
  have oM1 : okM (cn C) M1 := ⟨⟨by show 0 ≤ mh S.1 + 1; omega, by show mh S.1 + 1 ≤ 9999; omega⟩, hoM.2⟩
  have f1 : rH m V (sA V (m + 37) 0 (mh S.1 + 1)) := rH_sA (Or.inl rfl)
  have m1 : rM (gA (sA V (m + 37) 0 (mh S.1 + 1)) (m + 37)) (cn C) M1 := by rw [gA_sAe]; exact rM_hour hM
  let M2 : mMo := if (mh S.1 + 1) % 24 = 0 then nightM C M1 ((mh S.1 + 1) / 24) else M1
  have oM2 : okM (cn C) M2 := by
    show okM (cn C) (if (mh S.1 + 1) % 24 = 0 then nightM C M1 ((mh S.1 + 1) / 24) else M1)
    split
    · exact okM_night oM1
    · exact oM1
  have hm2 : mh M2 = mh S.1 + 1 := by
    show mh (if (mh S.1 + 1) % 24 = 0 then nightM C M1 ((mh S.1 + 1) / 24) else M1) = _
    split <;> rfl
  have rest : ∀ V4, rH m V V4 → rM (gA V4 (m + 37)) (cn C) M2 → rS V4 m S → ∃ V', F_X10_hourComes_J28 G m ((mh S.1 + 1) % 24) V4 = some (V', 0) ∧ rH m V V' ∧ rM (gA V' (m + 37)) (cn C) (hourS C S).1 ∧ rS V' m (hourS C S) := by
    intro V4 F4 m4 s4
    obtain ⟨V5, q5, e5, f5, m5, s5⟩ := r_duties (G := G) (S := (M2, S.2)) ho (hv.fr F4.cs) m4 oM2 (s4.mom M2) (clock := (mh S.1 + 1) % 24) (day := (mh S.1 + 1) / 24) ⟨by omega, by omega⟩ (by show _ = mh M2 / 24; rw [hm2])
    have o5 := okM_stD (clock := (mh S.1 + 1) % 24) (day := (mh S.1 + 1) / 24) (srt (cn C).toNat (cd C)) (M2, S.2) oM2
    have h5 := mh_stD (C := C) (clock := (mh S.1 + 1) % 24) (day := (mh S.1 + 1) / 24) (srt (cn C).toNat (cd C)) (M2, S.2)
    have h5' : mh ((srt (cn C).toNat (cd C)).foldl (stD C ((mh S.1 + 1) % 24) ((mh S.1 + 1) / 24)) (M2, S.2)).1 = mh S.1 + 1 := h5.trans hm2
    have F5 := F4.trans f5
    obtain ⟨V6, q6, e6, f6, s6, m6⟩ := r_watch (G := G) ho (hv.fr F5.cs) m5 o5 s5 (clock := (mh S.1 + 1) % 24) (day := (mh S.1 + 1) / 24) ⟨by rw [h5'], by rw [h5']⟩
    refine ⟨V6, ?_, F5.trans f6, m6, s6⟩
    unfold F_X10_hourComes_J28
    exact E_bd e5 (E_bd e6 rfl)
  have h00 : gA V (m + 37) 0 = mh S.1 := hM.1
  have g0 : gA (sA V (m + 37) 0 (mh S.1 + 1)) (m + 37) 0 = mh S.1 + 1 := m1.1
  have s1 : rS (sA V (m + 37) 0 (mh S.1 + 1)) m S := hS.nowA
  by_cases hnight : (mh S.1 + 1) % 24 = 0
  · have hM2 : M2 = nightM C M1 ((mh S.1 + 1) / 24) := if_pos hnight
    obtain ⟨V4, e4, f4, m4, s4⟩ := r_night (G := G) (S := S) ho (hv.fr f1.cs) m1 oM1 s1
    obtain ⟨V', e', h'⟩ := rest V4 (f1.trans f4) (by rw [hM2]; exact m4) s4
    refine ⟨V', ?_, h'⟩
    unfold F_X10_hourComes
    rw [h00]
    refine E_lt ?_
    rw [g0, tm1]
    exact E_gd ⟨by omega, by omega⟩ (E_lt (E_gd ⟨by omega, by omega⟩ (E_if (fun _ => E_bd e4 e') (fun q => absurd hnight q))))
  · have hM2 : M2 = M1 := if_neg hnight
    obtain ⟨V', e', h'⟩ := rest _ f1 (by rw [hM2]; exact m1) s1
    refine ⟨V', ?_, h'⟩
    unfold F_X10_hourComes
    rw [h00]
    refine E_lt ?_
    rw [g0, tm1]
    exact E_gd ⟨by omega, by omega⟩ (E_lt (E_gd ⟨by omega, by omega⟩ (E_if (fun q => absurd q hnight) (fun _ => e'))))
end

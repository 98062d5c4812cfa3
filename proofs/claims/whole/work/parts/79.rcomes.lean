/-! the reference: a duty, a night, an hour -/
theorem okM_duty {C : mCy} {clock day l task : Int} {S : mSt} (h : okM (cn C) S.1) : okM (cn C) (dutyS C clock day S l task).1 := by
  have q : ∀ (m : Nat) (k : Int) (M : mMo) (a b c1 d1 : Int), okM (cn C) M → okM (cn C) (itr (noteM C a b c1 d1) k m M) := by
    intro m
    induction m with
    | zero => intro k M a b c1 d1 h; exact h
    | succ m ih => intro k M a b c1 d1 h; unfold itr; exact ih _ _ _ _ _ _ (okM_note h)
  unfold dutyS
  simp only
  (repeat' split) <;> first | exact h | exact okM_keep h _ _ _ | exact q _ _ _ _ _ _ _ h
theorem mh_note {C : mCy} {a b c1 d1 : Int} : ∀ (m : Nat) (k : Int) (M : mMo), mh (itr (noteM C a b c1 d1) k m M) = mh M
  | 0, _, _ => rfl
  | m + 1, k, M => by unfold itr; rw [mh_note m]; unfold noteM; split <;> rfl
theorem mh_duty {C : mCy} {clock day l task : Int} {S : mSt} : mh (dutyS C clock day S l task).1 = mh S.1 := by
  unfold dutyS
  simp only
  (repeat' split) <;> first | rfl | (show mh (itr _ _ _ _) = _; rw [mh_note])
section
variable {G : mG} {V : mV} {m : Nat} {C : mCy} {M : mMo} {S : mSt}
theorem r_dutyC (ho : okC C) (hv : rC V m C) (hM : rM (gA V (m + 37)) (cn C) S.1) (hoM : okM (cn C) S.1) (hS : rS V m S) {l task clock : Int} (hl : 0 ≤ l ∧ l < cn C) (ht : 0 ≤ task ∧ task < ct C) (hck : 0 ≤ clock ∧ clock < 24) :
    ∃ V', F_X10_dutyComes G m l task clock V = some (V', 0) ∧ rH m V V' ∧ rM (gA V' (m + 37)) (cn C) (dutyS C clock (mh S.1 / 24) S l task).1 ∧ rS V' m (dutyS C clock (mh S.1 / 24) S l task) := by
  have hn := ho.1
  have hh := hoM.1
  have hl40 := hoM.2.2.2.2.2.2
  have hwho := r_who (G := G) hv ho hM hoM (l := l) ⟨by omega, by omega⟩
  have hfr := fi_rg (ml S.1) l (cn C).toNat 0
  unfold dutyS
  simp only
  generalize fi (ml S.1) l 0 (cn C).toNat = who at hwho hfr
  by_cases h1 : who = -1
  · rw [if_pos h1]
    obtain ⟨V1, e1, f1, m1, s1⟩ := r_left (G := G) hM hl40 (by omega) hS (l := l)
    refine ⟨V1, ?_, f1, m1, s1⟩
    unfold F_X10_dutyComes
    exact E_bd hwho (E_gd ⟨by omega, by omega⟩ (E_if (fun _ => E_bd e1 rfl) (fun q => absurd h1 q)))
  · rw [if_neg h1]
    have hw : 0 ≤ who ∧ who < cn C := by omega
    obtain ⟨V1, e1, f1, b1⟩ := r_canDo (G := G) ho hv hM hoM hw hl ht hck
    have v1 := hv.fr f1.cs
    have s1 := hS.T f1
    have m1 : rM (gA V1 (m + 37)) (cn C) S.1 := by rw [f1.1]; exact hM
    generalize able C (mp S.1 who l) (if who = l then 1 else 0) task clock (mh S.1 / 24) = ab at e1 b1
    by_cases h2 : ab = 0
    · rw [if_pos h2]
      obtain ⟨V2, e2, f2, m2, s2⟩ := r_dried (G := G) m1 hl40 (by omega) s1 (l := l) hw
      refine ⟨V2, ?_, f1.H.trans f2, m2, s2⟩
      unfold F_X10_dutyComes
      exact E_bd hwho (E_gd ⟨by omega, by omega⟩ (E_if (fun q => absurd q h1) (fun _ => E_bd e1 (E_gd ⟨by omega, by omega⟩ (E_if (fun _ => E_bd e2 rfl) (fun q => absurd h2 q))))))
    · rw [if_neg h2]
      have fin : ∀ (S' : mSt), Wp (lp (fun (s : Int) V => B_X10_dutyComes_45 G m l task clock who s V) FU 0 V1) (fun V' q => rH m V V' ∧ rM (gA V' (m + 37)) (cn C) S'.1 ∧ rS V' m S') → ∃ V', F_X10_dutyComes G m l task clock V = some (V', 0) ∧ rH m V V' ∧ rM (gA V' (m + 37)) (cn C) S'.1 ∧ rS V' m S' := by
        rintro S' ⟨V', q, e, h⟩
        refine ⟨V', ?_, h⟩
        unfold F_X10_dutyComes
        exact E_bd hwho (E_gd ⟨by omega, by omega⟩ (E_if (fun q => absurd q h1) (fun _ => E_bd e1 (E_gd ⟨by omega, by omega⟩ (E_if (fun q => absurd q h2) (fun _ => E_bd e rfl))))))
      by_cases h3 : who = l
      · rw [if_pos h3]
        refine fin S ?_
        refine W_lp (fun w k U => U = V1 ∧ k = 0) ?_ FU 0 0 V1 ⟨rfl, rfl⟩ (by unfold FU; omega)
        rintro w k U ⟨rfl, rfl⟩
        unfold B_X10_dutyComes_45
        refine W_be (r_many v1) (W_gd ⟨by decide, by decide⟩ (W_gd ⟨by omega, by omega⟩ (W_if (fun q => by omega) (fun _ => W_gd ⟨by omega, by omega⟩ (W_gd ⟨by omega, by omega⟩ (W_if (fun _ => W_so (Or.inr ⟨Nat.one_ne_zero, f1.H, m1, s1⟩)) (fun q => absurd h3 q)))))))
      · rw [if_neg h3]
        refine fin (itr (noteM C clock (mh S.1 / 24) l who) 0 (cn C).toNat S.1, S.2) ?_
        refine W_lp (fun w k U => 0 ≤ k ∧ k + w = cn C ∧ rH m V U ∧ rC U m C ∧ rS U m S ∧ ∃ Mk, mh Mk = mh S.1 ∧ rM (gA U (m + 37)) (cn C) Mk ∧ okM (cn C) Mk ∧ itr (noteM C clock (mh S.1 / 24) l who) k w Mk = itr (noteM C clock (mh S.1 / 24) l who) 0 (cn C).toNat S.1) ?_ FU (cn C).toNat 0 V1 ⟨by omega, by omega, f1.H, v1, s1, S.1, rfl, m1, hoM, rfl⟩ (by unfold FU; omega)
        rintro w k U ⟨h0, hkw, hf, hvU, hsU, Mk, hmh, hMk, hok, hit⟩
        unfold B_X10_dutyComes_45
        refine W_be (r_many hvU) (W_gd ⟨by omega, by omega⟩ (W_gd ⟨by omega, by omega⟩ (W_if (fun q => W_so (Or.inr ⟨Nat.one_ne_zero, hf, ?_, hsU.mom _⟩)) (fun q => W_gd ⟨by omega, by omega⟩ (W_gd ⟨by omega, by omega⟩ (W_if (fun q2 => absurd q2 h3) (fun _ => ?_)))))))
        · have : w = 0 := by omega
          subst this
          have hit' : Mk = itr (noteM C clock (mh S.1 / 24) l who) 0 (cn C).toNat S.1 := hit
          show rM _ _ (itr _ _ _ _)
          rw [← hit']; exact hMk
        · obtain ⟨w, rfl⟩ : ∃ w', w = w' + 1 := ⟨w - 1, by omega⟩
          have hit' : itr (noteM C clock (mh S.1 / 24) l who) (k + 1) w (noteM C clock (mh S.1 / 24) l who k Mk) = itr (noteM C clock (mh S.1 / 24) l who) 0 (cn C).toNat S.1 := hit
          have hp : 0 ≤ k ∧ k < cn C := ⟨h0, by omega⟩
          have hlv := hok.2.1 k h0 hp.2
          have skip : noteM C clock (mh S.1 / 24) l who k Mk = Mk → ∀ U2, rH m V U2 → rC U2 m C → rS U2 m S → rM (gA U2 (m + 37)) (cn C) Mk → Wp (lt (k + 1) fun y => some (U2, (0, y))) (fun (V' : mV) (q : Nat × Int) => (q.1 = 0 ∧ ∃ w', w' < w + 1 ∧ (0 ≤ q.2 ∧ q.2 + w' = cn C ∧ rH m V V' ∧ rC V' m C ∧ rS V' m S ∧ ∃ Mk, mh Mk = mh S.1 ∧ rM (gA V' (m + 37)) (cn C) Mk ∧ okM (cn C) Mk ∧ itr (noteM C clock (mh S.1 / 24) l who) q.2 w' Mk = itr (noteM C clock (mh S.1 / 24) l who) 0 (cn C).toNat S.1)) ∨ (q.1 ≠ 0 ∧ rH m V V' ∧ rM (gA V' (m + 37)) (cn C) ((itr (noteM C clock (mh S.1 / 24) l who) 0 (cn C).toNat S.1, S.2) : mSt).1 ∧ rS V' m (itr (noteM C clock (mh S.1 / 24) l who) 0 (cn C).toNat S.1, S.2))) := by
            intro e U2 a1 a2 a3 a4
            exact W_lt (W_so (Or.inl ⟨rfl, w, by omega, by show 0 ≤ k + 1; omega, by show k + 1 + (w : Int) = cn C; omega, a1, a2, a3, Mk, hmh, a4, hok, by rw [e] at hit'; exact hit'⟩))
          refine W_if (fun e => skip (by unfold noteM; rw [if_neg (fun q => q.1 e)]) U hf hvU hsU hMk) (fun x1 => W_if (fun e => skip (by unfold noteM; rw [if_neg (fun q => q.2.1 e)]) U hf hvU hsU hMk) (fun x2 => ?_))
          refine W_be (r_lives hMk (by omega) hp) (W_gd ⟨by omega, by omega⟩ (W_if (fun e => skip (by unfold noteM; rw [if_neg (fun q => q.2.2.1 e)]) U hf hvU hsU hMk) (fun x3 => ?_)))
          obtain ⟨U1, g1, f2, b2⟩ := r_seen (G := G) ho hvU hMk hok hp hw hl (clock := clock) ⟨by omega, by omega⟩ (day := mh S.1 / 24) ⟨by omega, by omega⟩
          have h0' : gA U (m + 37) 0 = mh S.1 := by rw [hMk.1, hmh]
          rw [h0', (tm24 hh.1).2]
          refine W_gd ⟨by omega, by omega⟩ (W_be g1 (W_gd ⟨by omega, by omega⟩ ?_))
          have m2 : rM (gA U1 (m + 37)) (cn C) Mk := by rw [f2.1]; exact hMk
          refine W_if (fun e => skip (by unfold noteM; rw [if_neg (fun q => q.2.2.2 e)]) U1 (hf.trans f2.H) (hvU.fr f2.cs) (hsU.T f2) m2) (fun x4 => ?_)
          obtain ⟨U2, g2, f3, m3, s3⟩ := r_noted (G := G) (S := (Mk, S.2)) m2 hok.2.2.2.2.2.2 (by omega) ((hsU.T f2).mom Mk) (l := l) (p := k)
          have hno : noteM C clock (mh S.1 / 24) l who k Mk = keepM Mk 2 l k := by unfold noteM; rw [if_pos ⟨x1, x2, x3, x4⟩]
          rw [hno] at hit'
          exact W_be g2 (W_lt (W_so (Or.inl ⟨rfl, w, by omega, by show 0 ≤ k + 1; omega, by show k + 1 + (w : Int) = cn C; omega, (hf.trans f2.H).trans f3, (hvU.fr f2.cs).fr f3.cs, s3.mom _, keepM Mk 2 l k, hmh, m3, okM_keep hok _ _ _, hit'⟩)))
theorem r_knows {p l v : Int} {n : Int} (hn : n ≤ 10) (hp : 0 ≤ p ∧ p < n) (hl : 0 ≤ l ∧ l < n) : F_X10_knowsNow G m p l v V = some (sA V (m + 37) (3 + 12 * p + l).toNat v, 0) := by
  unfold F_X10_knowsNow
  exact E_gd ⟨by omega, by omega, by omega⟩ rfl
theorem r_live {p v : Int} {n : Int} (hn : n ≤ 10) (hp : 0 ≤ p ∧ p < n) : F_X10_liveNow G m p v V = some (sA V (m + 37) (1 + 12 * p).toNat v, 0) := by
  unfold F_X10_liveNow
  exact E_gd ⟨by omega, by omega, by omega⟩ rfl
theorem r_night (ho : okC C) (hv : rC V m C) (hM : rM (gA V (m + 37)) (cn C) M) (hoM : okM (cn C) M) (hS : rS V m S) :
    ∃ V', F_X10_nightComes G m V = some (V', 0) ∧ rH m V V' ∧ rM (gA V' (m + 37)) (cn C) (nightM C M (mh M / 24)) ∧ rS V' m S := by
  have hn := ho.1
  have hh := hoM.1
  -- home
  let lk : Int → Int → Int := fun p q => if q < p then q else ml M q
  have home : Wp (lp (fun (s : Int) V => B_X10_nightComes_2 G m s V) FU 0 V) (fun V' _ => rH m V V' ∧ rC V' m C ∧ rS V' m S ∧ rM (gA V' (m + 37)) (cn C) (mh M, fun p => p, mw M, mp M, me M)) := by
    refine W_lp (fun w k U => 0 ≤ k ∧ k + w = cn C ∧ rH m V U ∧ rC U m C ∧ rS U m S ∧ rM (gA U (m + 37)) (cn C) (mh M, lk k, mw M, mp M, me M)) ?_ FU (cn C).toNat 0 V ⟨by omega, by omega, rH_refl, hv, hS, rM_cg (l := ml M) (f := mp M) hM (fun p a b => by show (if p < 0 then p else ml M p) = _; rw [if_neg (by omega)]) (fun _ _ _ _ _ _ => rfl)⟩ (by unfold FU; omega)
    rintro w k U ⟨h0, hkw, hf, hvU, hsU, hMU⟩
    unfold B_X10_nightComes_2
    refine W_be (r_many hvU) (W_gd ⟨by omega, by omega⟩ (W_gd ⟨by omega, by omega⟩ (W_if (fun q => W_so (Or.inr ⟨Nat.one_ne_zero, hf, hvU, hsU, ?_⟩)) (fun q => ?_))))
    · exact rM_cg hMU (fun p a b => by show p = (if p < k then p else ml M p); rw [if_pos (by omega)]) (fun _ _ _ _ _ _ => rfl)
    · have f1 : rH m U (sA U (m + 37) (1 + 12 * k).toNat k) := rH_sA (Or.inl rfl)
      refine W_be (r_live (n := cn C) (by omega) ⟨h0, by omega⟩) (W_lt (W_so (Or.inl ⟨rfl, w - 1, by omega, by show 0 ≤ k + 1; omega, by show k + 1 + ((w - 1 : Nat) : Int) = cn C; omega, hf.trans f1, hvU.fr f1.cs, hsU.nowA, ?_⟩)))
      rw [gA_sAe]
      refine rM_cg (rM_setL (M := (mh M, lk k, mw M, mp M, me M)) hMU (by omega) ⟨h0, by omega⟩) (fun p a b => ?_) (fun _ _ _ _ _ _ => rfl)
      show (if p < k + 1 then p else ml M p) = uf (lk k) k k p
      unfold uf
      by_cases e : p = k
      · rw [if_pos e, if_pos (by omega), e]
      · rw [if_neg e]
        show _ = (if p < k then p else ml M p)
        by_cases e2 : p < k
        · rw [if_pos e2, if_pos (by omega)]
        · rw [if_neg e2, if_neg (by omega)]
  obtain ⟨V1, q1, e1, f1, v1, s1, m1⟩ := home
  let N : Int → Int → Int := fun a b => if a = b then mp M a b else made C 1 a b (mp M a b) 0 (mh M / 24)
  let gk : Int → Int → Int → Int → Int := fun p l a b => if a < p ∨ (a = p ∧ b < l) then N a b else mp M a b
  have inner : ∀ (p : Int), 0 ≤ p → p < cn C → ∀ U, rH m V U → rC U m C → rS U m S → rM (gA U (m + 37)) (cn C) (mh M, fun p => p, mw M, gk p 0, me M) →
      Wp (lp (fun (s : Int) V => B_X10_nightComes_34 G m p s V) FU 0 U) (fun U' q => rH m V U' ∧ rC U' m C ∧ rS U' m S ∧ rM (gA U' (m + 37)) (cn C) (mh M, fun p => p, mw M, gk (p + 1) 0, me M)) := by
    intro p hp0 hp1 U hf hvU hsU hMU
    refine W_lp (fun w l U => 0 ≤ l ∧ l + w = cn C ∧ rH m V U ∧ rC U m C ∧ rS U m S ∧ rM (gA U (m + 37)) (cn C) (mh M, fun p => p, mw M, gk p l, me M)) ?_ FU (cn C).toNat 0 U ⟨by omega, by omega, hf, hvU, hsU, hMU⟩ (by unfold FU; omega)
    rintro w l U ⟨h0, hlw, hf, hvU, hsU, hMU⟩
    unfold B_X10_nightComes_34
    refine W_be (r_many hvU) (W_gd ⟨by omega, by omega⟩ (W_gd ⟨by omega, by omega⟩ (W_if (fun q => W_so (Or.inr ⟨Nat.one_ne_zero, hf, hvU, hsU, ?_⟩)) (fun q => W_gd ⟨by omega, by omega⟩ (W_if (fun q2 => ?_) (fun q2 => ?_))))))
    · refine rM_cg hMU (fun _ _ _ => rfl) (fun a b a1 a2 b1 b2 => ?_)
      show (if a < p + 1 ∨ (a = p + 1 ∧ b < 0) then N a b else mp M a b) = (if a < p ∨ (a = p ∧ b < l) then N a b else mp M a b)
      by_cases e : a < p + 1
      · rw [if_pos (Or.inl e), if_pos (by omega)]
      · rw [if_neg (by omega), if_neg (by omega)]
    · refine W_lt (W_so (Or.inl ⟨rfl, w - 1, by omega, by show 0 ≤ l + 1; omega, by show l + 1 + ((w - 1 : Nat) : Int) = cn C; omega, hf, hvU, hsU, rM_cg hMU (fun _ _ _ => rfl) (fun a b a1 a2 b1 b2 => ?_)⟩))
      show (if a < p ∨ (a = p ∧ b < l + 1) then N a b else mp M a b) = (if a < p ∨ (a = p ∧ b < l) then N a b else mp M a b)
      by_cases e : a = p ∧ b = l
      · rw [if_pos (by omega), if_neg (by omega)]
        show (if a = b then mp M a b else _) = _
        rw [if_pos (by omega)]
      · by_cases e2 : a < p ∨ (a = p ∧ b < l)
        · rw [if_pos e2, if_pos (by omega)]
        · rw [if_neg e2, if_neg (by omega)]
    · have hp : 0 ≤ p ∧ p < cn C := ⟨hp0, hp1⟩
      have hl : 0 ≤ l ∧ l < cn C := ⟨h0, by omega⟩
      have hpt := hoM.2.2.2.2.1 p l hp.1 hp.2 hl.1 hl.2
      have hcur : gk p l p l = mp M p l := by show (if p < p ∨ (p = p ∧ l < l) then _ else _) = _; rw [if_neg (by omega)]
      have g0 : F_X10_pointsOf G m p l U = some (U, mp M p l) := by rw [r_pts hMU (by omega) hp hl]; show some (U, gk p l p l) = _; rw [hcur]
      obtain ⟨U1, g1, f2⟩ := r_made (G := G) ho hvU (w := 1) (Or.inr rfl) hp hl hpt (clock := 0) ⟨by decide, by decide⟩ (day := mh M / 24) ⟨by omega, by omega⟩
      have h00 : gA U (m + 37) 0 = mh M := hMU.1
      have f3 : rH m U1 (sA U1 (m + 37) (3 + 12 * p + l).toNat (made C 1 p l (mp M p l) 0 (mh M / 24))) := rH_sA (Or.inl rfl)
      refine W_be g0 ?_
      rw [h00, (tm24 hh.1).2]
      refine W_gd ⟨by omega, by omega⟩ (W_be g1 (W_be (r_knows (n := cn C) (by omega) hp hl) (W_lt (W_so (Or.inl ⟨rfl, w - 1, by omega, by show 0 ≤ l + 1; omega, by show l + 1 + ((w - 1 : Nat) : Int) = cn C; omega, (hf.trans f2.H).trans f3, (hvU.fr f2.cs).fr f3.cs, (hsU.T f2).nowA, ?_⟩)))))
      rw [gA_sAe, f2.1]
      refine rM_cg (rM_setP (M := (mh M, fun p => p, mw M, gk p l, me M)) hMU (by omega) hp hl) (fun _ _ _ => rfl) (fun a b a1 a2 b1 b2 => ?_)
      show (if a < p ∨ (a = p ∧ b < l + 1) then N a b else mp M a b) = ug (gk p l) p l _ a b
      unfold ug
      by_cases e : a = p ∧ b = l
      · rw [if_pos (by omega), if_pos e]
        obtain ⟨e1, e2⟩ := e
        subst e1; subst e2
        show (if a = b then _ else made C 1 a b (mp M a b) 0 (mh M / 24)) = _
        rw [if_neg (by omega)]
      · rw [if_neg e]
        show _ = (if a < p ∨ (a = p ∧ b < l) then N a b else mp M a b)
        by_cases e2 : a < p ∨ (a = p ∧ b < l)
        · rw [if_pos e2, if_pos (by omega)]
        · rw [if_neg e2, if_neg (by omega)]
  have outer : Wp (lp (fun (s : Int) V => B_X10_nightComes_24 G m s V) FU 0 V1) (fun U' q => rH m V U' ∧ rC U' m C ∧ rS U' m S ∧ rM (gA U' (m + 37)) (cn C) (mh M, fun p => p, mw M, gk (cn C) 0, me M)) := by
    refine W_lp (fun w p U => 0 ≤ p ∧ p + w = cn C ∧ rH m V U ∧ rC U m C ∧ rS U m S ∧ rM (gA U (m + 37)) (cn C) (mh M, fun p => p, mw M, gk p 0, me M)) ?_ FU (cn C).toNat 0 V1 ⟨by omega, by omega, f1, v1, s1, rM_cg m1 (fun _ _ _ => rfl) (fun a b a1 _ b1 _ => by show (if a < 0 ∨ (a = 0 ∧ b < 0) then _ else _) = _; rw [if_neg (by omega)])⟩ (by unfold FU; omega)
    rintro w p U ⟨h0, hpw, hf, hvU, hsU, hMU⟩
    unfold B_X10_nightComes_24
    refine W_be (r_many hvU) (W_gd ⟨by omega, by omega⟩ (W_gd ⟨by omega, by omega⟩ (W_if (fun q => W_so (Or.inr ⟨Nat.one_ne_zero, hf, hvU, hsU, ?_⟩)) (fun q => ?_))))
    · have : p = cn C := by omega
      subst this
      exact hMU
    · exact W_bd (inner p h0 (by omega) U hf hvU hsU hMU) (fun U' q' hq => W_lt (W_so (Or.inl ⟨rfl, w - 1, by omega, by show 0 ≤ p + 1; omega, by show p + 1 + ((w - 1 : Nat) : Int) = cn C; omega, hq⟩)))
  obtain ⟨V2, q2, e2, f2, v2, s2, m2⟩ := outer
  refine ⟨V2, ?_, f2, rM_cg m2 (fun _ _ _ => rfl) (fun a b a1 a2 b1 b2 => ?_), s2⟩
  · unfold F_X10_nightComes
    exact E_bd e1 (E_bd e2 rfl)
  · show (if a = b then mp M a b else made C 1 a b (mp M a b) 0 (mh M / 24)) = (if a < cn C ∨ (a = cn C ∧ b < 0) then N a b else mp M a b)
    rw [if_pos (Or.inl a2)]
end

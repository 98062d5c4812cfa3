/-! a duty comes: the class's fail, noticeAll, meetDuty -/
/-- what the course has counted -/
def kS (V : mV) (cr : Nat) (n : Int) (S : mSt) : Prop := ((gI V (cr + 5) 1 = 2 ∧ rc V (cr + 5) 0 = S.2.1.1 ∧ rc V (cr + 5) 1 = S.2.1.2) ∨ gI V (cr + 5) 1 = 0) ∧
  ((S.2.2.1.2.1 = -1 ∧ gI V (cr + 7) 1 = 0) ∨ (S.2.2.1.2.1 ≠ -1 ∧ rw' V (cr + 7) 3 (fun k => if k = 0 then S.2.2.1.1 else if k = 1 then S.2.2.1.2.1 else S.2.2.1.2.2))) ∧
  (rw' V (cr + 9) 10 S.2.2.2 ∧ n ≤ 10)
theorem kS.fr {Z : Nat → Prop} {V V1 : mV} {cr : Nat} {n : Int} {S : mSt} (h : kS V cr n S) (k : fr Z V V1) (hZ : ∀ i, cr + 5 ≤ i → i ≤ cr + 10 → ¬ Z i) : kS V1 cr n S := by
  obtain ⟨a, b, c, d⟩ := h
  refine ⟨?_, ?_, c.fr k (hZ _ (by omega) (by omega)) (hZ _ (by omega) (by omega)), d⟩
  · rw [k.I (hZ _ (by omega) (by omega)), rc_fr k (hZ _ (by omega) (by omega))]; exact a
  · rw [k.I (hZ _ (by omega) (by omega))]
    rcases b with b | ⟨b1, b2⟩
    · exact Or.inl b
    · exact Or.inr ⟨b1, b2.fr k (hZ _ (by omega) (by omega)) (hZ _ (by omega) (by omega))⟩
theorem kS.mom {V : mV} {cr : Nat} {n : Int} {S : mSt} (h : kS V cr n S) (M : mMo) : kS V cr n (M, S.2) := h
/-- what a duty changes: the facts, the counts, the stacks, what is kept -/
def sD (cr c mo i : Nat) : Prop := i = cr + 2 ∨ (cr + 6 ≤ i ∧ i ≤ cr + 10) ∨ isSk c i ∨ i = mo ∨ i = mo + 8
def sN (cr c mo i : Nat) : Prop := i = cr + 2 ∨ isSk c i ∨ i = mo ∨ i = mo + 8
section
variable {G : mG} {V : mV} {cr c mo : Nat} {C : mCy} {n B : Int} {S : mSt}
theorem c_fail (hG : is2 G cr) (hm : is4 G mo) (hmo : cr + 10 < mo) (hM : vM V mo n S.1 B) (hB : B ≤ 100000000) (hS : kS V cr n S) {w l p : Int} (hw : w = 0 ∨ w = 1) :
    ∃ V', F_X2_fail G cr mo w l p V = some (V', 0) ∧ fr (fun i => (cr + 6 ≤ i ∧ i ≤ cr + 10) ∨ i = mo ∨ i = mo + 8) V V' ∧ vM V' mo n (failX S w l p).1 (B + 1) ∧ kS V' cr n (failX S w l p) := by
  obtain ⟨V1, e1, f1, m1⟩ := m_keep hm hM hB (w := w) (l := l) (p := p)
  have s1 := hS.fr f1 (fun i h1 h2 => by omega)
  have f1' : fr (fun i => (cr + 6 ≤ i ∧ i ≤ cr + 10) ∨ i = mo ∨ i = mo + 8) V V1 := f1.mono (fun i q => Or.inr q)
  -- the counts
  obtain ⟨V2, x, e2, e3, f2, g2⟩ : ∃ V2 x, F_X7_get G (cr + 5) w V1 = some (V1, x) ∧ F_X7_put G (cr + 5) w (x + 1) V1 = some (V2, 0) ∧ fr (fun i => i = cr + 6) V1 V2 ∧ ((gI V2 (cr + 5) 1 = 2 ∧ rc V2 (cr + 5) 0 = (if w = 0 then S.2.1.1 + 1 else S.2.1.1) ∧ rc V2 (cr + 5) 1 = (if w = 1 then S.2.1.2 + 1 else S.2.1.2)) ∨ gI V2 (cr + 5) 1 = 0) := by
    have hq := s2_3c hG
    rcases s1.1 with ⟨a1, a2, a3⟩ | a1
    · have z : rz G V1 (cr + 5) := rw_rz hq a1 ⟨by decide, by decide⟩
      refine ⟨sA V1 (cr + 6) w.toNat (rc V1 (cr + 5) w + 1), rc V1 (cr + 5) w, ?_, ?_, fr_sA rfl, Or.inl ⟨a1, ?_, ?_⟩⟩
      · rw [p7_get (s2_3s hG) z ⟨by omega, by omega⟩, rget_in (by omega) (by rw [a1]; omega)]
      · rw [p7_put (s2_3s hG) z ⟨by omega, by omega⟩]; unfold rput; rw [if_pos ⟨by omega, by rw [a1]; omega⟩]
      · show gA (sA V1 (cr + 6) w.toNat _) (cr + 6) 0 = _
        rw [gA_sA]
        rcases hw with rfl | rfl
        · rw [if_pos ⟨rfl, rfl⟩, if_pos rfl, a2]
        · rw [if_neg (by rintro ⟨-, q⟩; cases q), if_neg (by decide)]; exact a2
      · show gA (sA V1 (cr + 6) w.toNat _) (cr + 6) 1 = _
        rw [gA_sA]
        rcases hw with rfl | rfl
        · rw [if_neg (by rintro ⟨-, q⟩; cases q), if_neg (by decide)]; exact a3
        · rw [if_pos ⟨rfl, rfl⟩, if_pos rfl, a3]
    · have z : rz G V1 (cr + 5) := rw_rz hq a1 ⟨by decide, by decide⟩
      refine ⟨V1, -1, ?_, ?_, fr_refl, Or.inr a1⟩
      · rw [p7_get (s2_3s hG) z ⟨by omega, by omega⟩, rget_out (by rw [a1]; omega)]
      · rw [p7_put (s2_3s hG) z ⟨by omega, by omega⟩]; unfold rput; rw [if_neg (by rw [a1]; omega)]
  have m2 := m1.fr f2 (fun i h1 h2 => by omega)
  have b2 : (S.2.2.1.2.1 = -1 ∧ gI V2 (cr + 7) 1 = 0) ∨ (S.2.2.1.2.1 ≠ -1 ∧ rw' V2 (cr + 7) 3 (fun k => if k = 0 then S.2.2.1.1 else if k = 1 then S.2.2.1.2.1 else S.2.2.1.2.2)) := by
    rw [f2.I (by omega)]
    rcases s1.2.1 with b | ⟨b1, b2⟩
    · exact Or.inl b
    · exact Or.inr ⟨b1, b2.fr f2 (by omega) (by omega)⟩
  have d2 := s1.2.2.1.fr f2 (by omega) (by omega)
  have hh : gI V2 mo 0 = mh S.1 := m2.1
  rcases b2 with ⟨b1, b2⟩ | ⟨b1, b2⟩
  · -- the first one that fails
    have hq := s2_4c hG
    have add : ∀ (U : mV) (j : Nat) (v : Int), gI U (cr + 7) 1 = (j : Int) → j < 3 → F_X7_add G (cr + 7) v U = some (sI (sA U (cr + 8) j v) (cr + 7) 1 ((j : Int) + 1), 0) := by
      intro U j v hu hj
      rw [p7_add (s2_4s hG) (rw_rz hq hu ⟨by omega, by omega⟩)]
      unfold radd
      rw [hu, show qG G (cr + 7 + 1) = 3 from hq, if_pos (by omega)]
      rfl
    let U1 := sI (sA V2 (cr + 8) 0 (gI V2 mo 0)) (cr + 7) 1 (((0 : Nat) : Int) + 1)
    let U2 := sI (sA U1 (cr + 8) 1 w) (cr + 7) 1 (((1 : Nat) : Int) + 1)
    let U3 := sI (sA U2 (cr + 8) 2 l) (cr + 7) 1 (((2 : Nat) : Int) + 1)
    have a1 : F_X7_add G (cr + 7) (gI V2 mo 0) V2 = some (U1, 0) := add V2 0 _ b2 (by decide)
    have a2 : F_X7_add G (cr + 7) w U1 = some (U2, 0) := add U1 1 _ (by show gI (sI _ (cr + 7) 1 _) (cr + 7) 1 = _; rw [gI_sI, if_pos ⟨rfl, rfl⟩]; rfl) (by decide)
    have a3 : F_X7_add G (cr + 7) l U2 = some (U3, 0) := add U2 2 _ (by show gI (sI _ (cr + 7) 1 _) (cr + 7) 1 = _; rw [gI_sI, if_pos ⟨rfl, rfl⟩]; rfl) (by decide)
    have f3 : fr (fun i => i = cr + 7 ∨ i = cr + 8) V2 U3 := (((fr_sA (Or.inr rfl)).trans (fr_sI (Or.inl rfl))).trans ((fr_sA (Or.inr rfl)).trans (fr_sI (Or.inl rfl)))).trans ((fr_sA (Or.inr rfl)).trans (fr_sI (Or.inl rfl)))
    refine ⟨U3, ?_, (f1'.trans (f2.mono (fun i q => Or.inl (by omega)))).trans (f3.mono (fun i q => Or.inl (by omega))), m2.fr f3 (fun i h1 h2 => by omega), ?_, ?_, d2.fr f3 (by omega) (by omega), s1.2.2.2⟩
    · unfold F_X2_fail
      refine E_bd e1 (E_bd e2 (E_bd e3 (E_bd p7_size (E_gd (by rw [b2]; decide) (E_if (fun _ => E_bd a1 (E_bd a2 (E_bd a3 rfl))) (fun q => absurd b2 q))))))
    · rw [f3.I (by omega), rc_fr f3 (by omega)]; exact g2
    · have e : (failX S w l p).2.2.1 = (mh S.1, w, l) := by show (if S.2.2.1.2.1 = -1 then _ else _) = _; rw [if_pos b1]
      rw [e]
      refine Or.inr ⟨by show w ≠ -1; omega, ?_, fun j h1 h2 => ?_⟩
      · show gI (sI _ (cr + 7) 1 _) (cr + 7) 1 = 3
        rw [gI_sI, if_pos ⟨rfl, rfl⟩]; rfl
      · have hj : j = 0 ∨ j = 1 ∨ j = 2 := by omega
        rcases hj with rfl | rfl | rfl
        · show gA U3 (cr + 8) 0 = mh S.1
          rw [← hh]; simp [U3, U2, U1, gA_sI, gA_sA]
        · show gA U3 (cr + 8) 1 = w
          simp [U3, U2, U1, gA_sI, gA_sA]
        · show gA U3 (cr + 8) 2 = l
          simp [U3, U2, U1, gA_sI, gA_sA]
  · have hz := b2.1
    refine ⟨V2, ?_, f1'.trans (f2.mono (fun i q => Or.inl (by omega))), m2, g2, ?_, d2, s1.2.2.2⟩
    · unfold F_X2_fail
      exact E_bd e1 (E_bd e2 (E_bd e3 (E_bd p7_size (E_gd (by rw [hz]; decide) (E_if (fun q => by rw [hz] at q; cases q) (fun _ => rfl))))))
    · have e : (failX S w l p).2.2.1 = S.2.2.1 := by show (if S.2.2.1.2.1 = -1 then _ else _) = _; rw [if_neg b1]
      rw [e]; exact Or.inr ⟨b1, b2⟩
end
section
variable {G : mG} {V : mV} {cr c mo : Nat} {C : mCy} {B : Int} {S : mSt}
theorem c_seen (hG : is2 G cr) (hc : is1 G c) (hm : is4 G mo) (ho : okC C) (hv : vC V c C) (hk : kC V cr) (hmo : cr + 10 < mo) (hd : mo + 8 < c) {M : mMo} (hM : vM V mo (cn C) M B) (hoM : okM (cn C) M) (hcs : co C 3 ≠ []) {p who l clock day : Int} (hp : 0 ≤ p ∧ p < cn C) (hw : 0 ≤ who ∧ who < cn C) (hl : 0 ≤ l ∧ l < cn C) (htm : tmK V cr clock day) :
    ∃ V1 V2 V3, F_X2_setKnower G cr c p l (mp M who l) V = some (V1, 0) ∧ F_X7_put G (cr + 1) 17 (mp M p l) V1 = some (V2, 0) ∧ F_X3_value G (c + 36) (cr + 1) V2 = some (V3, seen C M p who l clock day) ∧ vM V1 mo (cn C) M B ∧ kC V3 cr ∧ fr (sT cr c) V V3 ∧ tmK V3 cr clock day ∧ (seen C M p who l clock day = 0 ∨ seen C M p who l clock day = 1) := by
  have hpt := hoM.2.2.2.2.1 who l hw.1 hw.2 hl.1 hl.2
  have hpt2 := hoM.2.2.2.2.1 p l hp.1 hp.2 hl.1 hl.2
  obtain ⟨o1, o2⟩ := (ho.2.2.2.2.2.2.2.2.2.2.2.2).resolve_left hcs
  obtain ⟨V1, e1, k1, f1, r1⟩ := c_knower hG hc ho hv hk (by omega) hp hl hpt
  have v1 := hv.fr f1 (fun i h1 h2 _ => by omega)
  have m1 := hM.fr f1 (fun i h1 h2 => by omega)
  obtain ⟨V2, e2, k2, f2, r2⟩ := k_put hG k1 (k := 17) (v := mp M p l) ⟨by decide, by decide⟩ ⟨by omega, by omega⟩
  have v2 := v1.fr f2 (fun i h1 h2 _ => by omega)
  have hag : ∀ k ∈ ([0, 1, 2, 3, 6] : List Int), rc V2 (cr + 1) (wrd k) = fct clock day (mp M who l) (sam C p l) 0 0 (mp M p l) k := by
    intro k hk
    simp only [List.mem_cons, List.not_mem_nil, or_false] at hk
    rcases hk with rfl | rfl | rfl | rfl | rfl
    · rw [show wrd 0 = 12 from rfl, r2 _ (by decide), r1 _ (by decide)]; simp [fct, htm.1]
    · rw [show wrd 1 = 13 from rfl, r2 _ (by decide), r1 _ (by decide)]; simp [fct, htm.2]
    · rw [show wrd 2 = 14 from rfl, r2 _ (by decide), r1 _ (by decide)]; simp [fct]
    · rw [show wrd 3 = 15 from rfl, r2 _ (by decide), r1 _ (by decide)]; simp [fct]
    · rw [show wrd 6 = 17 from rfl, r2 _ (by decide)]; simp [fct]
  obtain ⟨V3, e3, f3, b3, t3⟩ := c_tell hG (s1_13s hc) v2.1.2.2.2 k2 (by omega) o1 o2 hag
  have es : seen C M p who l clock day = tell (fct clock day (mp M who l) (sam C p l) 0 0 (mp M p l)) k0 (co C 3) := by unfold seen; rw [if_neg hcs]
  rw [es]
  refine ⟨V1, V2, V3, e1, e2, e3, m1, k2.fr f3 (by omega) (by omega), ((f1.trans f2).mono (fun i q => Or.inl q)).trans (f3.mono (fun i q => Or.inr (Or.inr (Or.inr (Or.inr q))))), ?_, t3 rfl⟩
  unfold tmK
  rw [rc_fr f3 (by omega), r2 _ (by decide), r2 _ (by decide), r1 _ (by decide), r1 _ (by decide)]
  exact htm
theorem okM_keep {n : Int} {M : mMo} (h : okM n M) (w l p : Int) : okM n (keepM M w l p) := by
  refine ⟨h.1, h.2.1, h.2.2.1, h.2.2.2.1, h.2.2.2.2.1, h.2.2.2.2.2.1, ?_⟩
  have hl := h.2.2.2.2.2.2
  show ((if (me M).length = 40 then (me M).tail else me M) ++ [(mh M, w, l, p)]).length ≤ 40
  rw [List.length_append]
  split
  · rw [List.length_tail]; simp; omega
  · simp; omega
theorem okM_note {n clock day l who p : Int} {M : mMo} (h : okM n M) : okM n (noteM C clock day l who p M) := by
  unfold noteM; split
  · exact okM_keep h _ _ _
  · exact h
theorem c_noticeAll (hG : is2 G cr) (hc : is1 G c) (hm : is4 G mo) (ho : okC C) (hv : vC V c C) (hk : kC V cr) (hmo : cr + 10 < mo) (hd : mo + 8 < c) {M : mMo} (hM : vM V mo (cn C) M B) (hB : B ≤ 99999000) (hoM : okM (cn C) M) (hcs : co C 3 ≠ []) {who l clock day : Int} (hw : 0 ≤ who ∧ who < cn C) (hl : 0 ≤ l ∧ l < cn C) (htm : tmK V cr clock day) :
    ∃ V', F_X2_noticeAll G cr c mo l who V = some (V', 0) ∧ fr (sN cr c mo) V V' ∧ vC V' c C ∧ kC V' cr ∧ tmK V' cr clock day ∧ vM V' mo (cn C) (itr (noteM C clock day l who) 0 (cn C).toNat M) (B + 10) ∧ okM (cn C) (itr (noteM C clock day l who) 0 (cn C).toNat M) := by
  have hn := ho.1
  have key : Wp (lp (fun (s : Int) V => B_X2_noticeAll_3 G cr c mo l who s V) FU 0 V) (fun V' q => fr (sN cr c mo) V V' ∧ vC V' c C ∧ kC V' cr ∧ tmK V' cr clock day ∧ vM V' mo (cn C) (itr (noteM C clock day l who) 0 (cn C).toNat M) (B + 10) ∧ okM (cn C) (itr (noteM C clock day l who) 0 (cn C).toNat M)) := by
    refine W_lp (fun w k U => 0 ≤ k ∧ k + w = cn C ∧ fr (sN cr c mo) V U ∧ vC U c C ∧ kC U cr ∧ tmK U cr clock day ∧ ∃ Mk, vM U mo (cn C) Mk (B + k) ∧ okM (cn C) Mk ∧ itr (noteM C clock day l who) k w Mk = itr (noteM C clock day l who) 0 (cn C).toNat M) ?_ FU (cn C).toNat 0 V ⟨by omega, by omega, fr_refl, hv, hk, htm, M, by simpa using hM, hoM, rfl⟩ (by unfold FU; omega)
    rintro w k U ⟨h0, hkw, hf, hvU, hkU, htU, Mk, hMk, hok, hit⟩
    have hsz : gI U (c + 1) 1 = cn C := hvU.2.1.1.1
    unfold B_X2_noticeAll_3
    refine W_be p7_size (W_gd ⟨by omega, by omega⟩ (W_gd (by rw [hsz]; exact ⟨by omega, by omega⟩) ?_))
    rw [hsz]
    refine W_if (fun q => W_so (Or.inr ⟨Nat.one_ne_zero, ?_⟩)) (fun q => ?_)
    · have : w = 0 := by omega
      subst this
      have hit' : Mk = itr (noteM C clock day l who) 0 (cn C).toNat M := hit
      rw [← hit']
      exact ⟨hf, hvU, hkU, htU, by
        obtain ⟨a, b, c1, d, e, f⟩ := hMk
        exact ⟨a, b, c1, d, ⟨e.1, by omega⟩, f⟩, hok⟩
    · obtain ⟨w, rfl⟩ : ∃ w', w = w' + 1 := ⟨w - 1, by omega⟩
      have hit' : itr (noteM C clock day l who) (k + 1) w (noteM C clock day l who k Mk) = itr (noteM C clock day l who) 0 (cn C).toNat M := hit
      -- nothing is noticed
      have skip : noteM C clock day l who k Mk = Mk → ∀ U2, fr (sN cr c mo) V U2 → vC U2 c C → kC U2 cr → tmK U2 cr clock day → vM U2 mo (cn C) Mk (B + k) → Wp (lt (k + 1) fun y => some (U2, (0, y))) (fun (V' : mV) (q : Nat × Int) => (q.1 = 0 ∧ ∃ w', w' < w + 1 ∧ (0 ≤ q.2 ∧ q.2 + w' = cn C ∧ fr (sN cr c mo) V V' ∧ vC V' c C ∧ kC V' cr ∧ tmK V' cr clock day ∧ ∃ Mk, vM V' mo (cn C) Mk (B + q.2) ∧ okM (cn C) Mk ∧ itr (noteM C clock day l who) q.2 w' Mk = itr (noteM C clock day l who) 0 (cn C).toNat M)) ∨ (q.1 ≠ 0 ∧ fr (sN cr c mo) V V' ∧ vC V' c C ∧ kC V' cr ∧ tmK V' cr clock day ∧ vM V' mo (cn C) (itr (noteM C clock day l who) 0 (cn C).toNat M) (B + 10) ∧ okM (cn C) (itr (noteM C clock day l who) 0 (cn C).toNat M))) := by
        intro e U2 a1 a2 a3 a4 a5
        refine W_lt (W_so (Or.inl ⟨rfl, w, by omega, by show 0 ≤ k + 1; omega, by show k + 1 + (w : Int) = cn C; omega, a1, a2, a3, a4, Mk, ?_, hok, by rw [← e]; rw [e]; rw [e] at hit'; exact hit'⟩))
        obtain ⟨a, b, c1, d, e2, f⟩ := a5
        exact ⟨a, b, c1, d, ⟨e2.1, by show gI U2 mo 5 ≤ B + (k + 1); omega⟩, f⟩
      refine W_gd ⟨by omega, by omega⟩ (W_if (fun e => skip (by unfold noteM; rw [if_neg (fun q => q.1 e)]) U hf hvU hkU htU hMk) (fun e1 => W_gd ⟨by omega, by omega⟩ (W_if (fun e => skip (by unfold noteM; rw [if_neg (fun q => q.2.1 e)]) U hf hvU hkU htU hMk) (fun e2 => ?_))))
      have hlv := hok.2.1 k h0 (by omega)
      refine W_be (rw_get (s4_1s hm) (s4_1c hm) hMk.2.1 (by omega) ⟨h0, by omega⟩) (W_gd ⟨by omega, by omega⟩ (W_if (fun e => skip (by unfold noteM; rw [if_neg (fun q => q.2.2.1 e)]) U hf hvU hkU htU hMk) (fun e3 => ?_)))
      obtain ⟨U1, U2, U3, g1, g2, g3, m1, k3, f3, t3, b3⟩ := c_seen hG hc hm ho hvU hkU hmo hd hMk hok hcs (p := k) ⟨h0, by omega⟩ hw hl htU
      refine W_be (m_points hm (by omega) hMk hw hl) (W_be g1 (W_be (m_points hm (by omega) m1 ⟨h0, by omega⟩ hl) (W_be g2 (W_be g3 (W_gd ⟨by omega, by omega⟩ ?_)))))
      have v3 := hvU.fr f3 (fun i h1 h2 h3 => by unfold sT; rintro (q | q); omega; exact h3 q)
      have m3 := hMk.fr f3 (fun i h1 h2 => by unfold sT isSk; omega)
      have F3 : fr (sN cr c mo) V U3 := hf.trans (f3.mono (fun i q => by simp only [sN, sT, isSk] at q ⊢; omega))
      refine W_if (fun e => skip (by unfold noteM; rw [if_neg (fun q => q.2.2.2 e)]) U3 F3 v3 k3 t3 m3) (fun e4 => ?_)
      obtain ⟨U4, g4, f4, m4⟩ := m_keep hm m3 (by omega) (w := 2) (l := l) (p := k)
      have hno : noteM C clock day l who k Mk = keepM Mk 2 l k := by unfold noteM; rw [if_pos ⟨e1, e2, e3, e4⟩]
      rw [hno] at hit'
      refine W_be g4 (W_lt (W_so (Or.inl ⟨rfl, w, by omega, by show 0 ≤ k + 1; omega, by show k + 1 + (w : Int) = cn C; omega, F3.trans (f4.mono (fun i q => by unfold sN; omega)), v3.fr f4 (fun i h1 h2 _ => by omega), k3.fr f4 (by omega) (by omega), t3.fr f4 (by omega), keepM Mk 2 l k, ?_, okM_keep hok _ _ _, hit'⟩)))
      have : B + k + 1 = B + (k + 1) := by omega
      rw [← this]; exact m4
  obtain ⟨V', q, e, h⟩ := key
  refine ⟨V', ?_, h⟩
  unfold F_X2_noticeAll
  exact E_bd e rfl
theorem c_meet (hG : is2 G cr) (hc : is1 G c) (hm : is4 G mo) (ho : okC C) (hv : vC V c C) (hk : kC V cr) (hmo : cr + 10 < mo) (hd : mo + 8 < c) (hM : vM V mo (cn C) S.1 B) (hB : B ≤ 99999000) (hoM : okM (cn C) S.1) (hS : kS V cr (cn C) S) {l task clock day : Int} (hl : 0 ≤ l ∧ l < cn C) (ht : 0 ≤ task ∧ task < ct C) (htm : tmK V cr clock day) :
    ∃ V', F_X2_meetDuty G cr c mo l task V = some (V', 0) ∧ fr (sD cr c mo) V V' ∧ vC V' c C ∧ kC V' cr ∧ tmK V' cr clock day ∧ vM V' mo (cn C) (dutyS C clock day S l task).1 (B + 10) ∧ okM (cn C) (dutyS C clock day S l task).1 ∧ kS V' cr (cn C) (dutyS C clock day S l task) := by
  have hn := ho.1
  have more : ∀ {U : mV} {M : mMo} {b : Int}, b ≤ B + 10 → vM U mo (cn C) M b → vM U mo (cn C) M (B + 10) := by
    rintro U M b hb ⟨a, b1, c1, d, e, f⟩
    exact ⟨a, b1, c1, d, ⟨e.1, by omega⟩, f⟩
  have hrl : rw' V (mo + 1) (cn C) (ml S.1) := hM.2.1
  have hfind : F_X7_find G (mo + 1) l V = some (V, fi (ml S.1) l 0 (cn C).toNat) := by
    rw [p7_find (s4_1s hm) (rw_rz (s4_1c hm) hrl.1 ⟨by omega, by omega⟩) (fun j h1 h2 => by
      rw [hrl.1] at h2
      rw [hrl.2 j h1 h2]
      have := hoM.2.1 j h1 h2
      exact ⟨by omega, by omega⟩) ⟨by omega, by omega⟩, hrl.1]
    rw [fi_cg (fun j h1 h2 => hrl.2 j h1 (by omega))]
  have hfr := fi_rg (ml S.1) l (cn C).toNat 0
  unfold F_X2_meetDuty dutyS
  simp only
  generalize hwho : fi (ml S.1) l 0 (cn C).toNat = who at hfind hfr
  by_cases h1 : who = -1
  · rw [if_pos h1]
    obtain ⟨V1, e1, f1, m1, s1⟩ := c_fail hG hm hmo hM (by omega) hS (w := 0) (l := l) (p := -1) (Or.inl rfl)
    refine ⟨V1, ?_, f1.mono (fun i q => by unfold sD; omega), hv.fr f1 (fun i a b _ => by omega), hk.fr f1 (by omega) (by omega), htm.fr f1 (by omega), more (by omega) m1, okM_keep hoM _ _ _, s1⟩
    refine E_bd hfind (E_gd ⟨by omega, by omega⟩ (E_if (fun _ => E_bd e1 rfl) (fun q => absurd h1 q)))
  · rw [if_neg h1]
    have hw : 0 ≤ who ∧ who < cn C := by omega
    have hpt := hoM.2.2.2.2.1 who l hw.1 hw.2 hl.1 hl.2
    obtain ⟨V1, e1, k1, f1, t1, b1⟩ := c_able hG hc ho hv hk (by omega) hw hl ht hpt htm
    have v1 := hv.fr f1 (fun i a b q => by unfold sT; rintro (h | h); omega; exact q h)
    have m1 := hM.fr f1 (fun i a b => by unfold sT isSk; omega)
    have s1 := hS.fr f1 (fun i a b => by unfold sT isSk; omega)
    have F1 : fr (sD cr c mo) V V1 := f1.mono (fun i q => by simp only [sD, sT, isSk] at q ⊢; omega)
    generalize hab : able C (mp S.1 who l) (if who = l then 1 else 0) task clock day = ab at e1 b1
    by_cases h2 : ab = 0
    · rw [if_pos h2]
      have hd9 : rw' V1 (cr + 9) 10 S.2.2.2 := s1.2.2.1
      obtain ⟨p1, p2⟩ := rw_put (v := S.2.2.2 who + 1) (s2_5s hG) (s2_5c hG) hd9 (by decide) ⟨hw.1, by omega⟩
      have fp : fr (fun i => i = cr + 10) V1 (sA V1 (cr + 9 + 1) who.toNat (S.2.2.2 who + 1)) := fr_sA rfl
      have m2 := m1.fr fp (fun i a b => by omega)
      have s2 : kS (sA V1 (cr + 9 + 1) who.toNat (S.2.2.2 who + 1)) cr (cn C) (dry S who) := by
        refine ⟨?_, ?_, p2, s1.2.2.2⟩
        · rw [fp.I (by omega), rc_fr fp (by omega)]; exact s1.1
        · rw [fp.I (by omega)]
          rcases s1.2.1 with b | ⟨q1, q2⟩
          · exact Or.inl b
          · exact Or.inr ⟨q1, q2.fr fp (by omega) (by omega)⟩
      obtain ⟨V3, e3, f3, m3, s3⟩ := c_fail (S := dry S who) hG hm hmo m2 (by omega) s2 (w := 1) (l := l) (p := who) (Or.inr rfl)
      have fA := fp.mono (S' := sD cr c mo) (fun i q => by unfold sD; omega)
      have fB := f3.mono (S' := sD cr c mo) (fun i q => by unfold sD; omega)
      refine ⟨V3, ?_, (F1.trans fA).trans fB, (v1.fr fp (fun i a b _ => by omega)).fr f3 (fun i a b _ => by omega), (k1.fr fp (by omega) (by omega)).fr f3 (by omega) (by omega), (t1.fr fp (by omega)).fr f3 (by omega), more (by omega) m3, okM_keep hoM _ _ _, s3⟩
      refine E_bd hfind (E_gd ⟨by omega, by omega⟩ (E_if (fun q => absurd q h1) (fun _ => E_bd (m_points hm (by omega) hM hw hl) (E_bd e1 (E_gd ⟨by omega, by omega⟩ (E_if (fun _ => ?_) (fun q => absurd h2 q)))))))
      exact E_bd (rw_get (s2_5s hG) (s2_5c hG) hd9 (by decide) ⟨hw.1, by omega⟩) (E_bd p1 (E_bd e3 rfl))
    · rw [if_neg h2]
      by_cases h3 : who = l
      · rw [if_pos h3]
        refine ⟨V1, ?_, F1, v1, k1, t1, more (by omega) m1, hoM, s1⟩
        refine E_bd hfind (E_gd ⟨by omega, by omega⟩ (E_if (fun q => absurd q h1) (fun _ => E_bd (m_points hm (by omega) hM hw hl) (E_bd e1 (E_gd ⟨by omega, by omega⟩ (E_if (fun q => absurd q h2) (fun _ => E_gd ⟨by omega, by omega⟩ (E_if (fun _ => rfl) (fun q => absurd h3 q)))))))))
      · rw [if_neg h3]
        have pre : ∀ r, (bd (F_X3_isTold G (c + 36) V1) fun V16 v17 => gd (rg v17) <| if v17 = 0 then (some (V16, 0)) else (bd (F_X2_noticeAll G cr c mo l who V16) fun V21 _ => some (V21, (0 : Int)))) = some r → (bd (F_X7_find G (mo + 1) l V) fun V1 v2 =>
  gd (rg v2) <|
  if v2 = (-1) then (bd (F_X2_fail G cr mo 0 l (-1) V1) fun V33 v34 =>
  some (V33, 0)) else (bd (F_X4_pointsOf G mo v2 l V1) fun V6 v7 =>
  bd (F_X2_able G cr c v2 l task v7 V6) fun V9 v10 =>
  gd (rg v10) <|
  if v10 = 0 then (bd (F_X7_get G (cr + 9) v2 V9) fun V24 v25 =>
  bd (F_X7_put G (cr + 9) v2 (v25 + 1) V24) fun V27 v28 =>
  bd (F_X2_fail G cr mo 1 l v2 V27) fun V30 v31 =>
  some (V30, 0)) else (gd (rg l) <|
  if v2 = l then (some (V9, 0)) else (bd (F_X3_isTold G (c + 36) V9) fun V16 v17 =>
  gd (rg v17) <|
  if v17 = 0 then (some (V16, 0)) else (bd (F_X2_noticeAll G cr c mo l v2 V16) fun V21 v22 =>
  some (V21, (0 : Int))))))) = some r := by
          intro r hr
          exact E_bd hfind (E_gd ⟨by omega, by omega⟩ (E_if (fun q => absurd q h1) (fun _ => E_bd (m_points hm (by omega) hM hw hl) (E_bd e1 (E_gd ⟨by omega, by omega⟩ (E_if (fun q => absurd q h2) (fun _ => E_gd ⟨by omega, by omega⟩ (E_if (fun q => absurd q h3) (fun _ => hr)))))))))
        by_cases h4 : co C 3 = []
        · have hid : itr (noteM C clock day l who) 0 (cn C).toNat S.1 = S.1 := by
            have : ∀ (m : Nat) (k : Int), itr (noteM C clock day l who) k m S.1 = S.1 := by
              intro m
              induction m with
              | zero => intro k; rfl
              | succ m ih =>
                intro k
                unfold itr
                rw [show noteM C clock day l who k S.1 = S.1 by unfold noteM; rw [if_neg]; rintro ⟨-, -, -, q⟩; apply q; unfold seen; rw [if_pos h4]]
                exact ih _
            exact this _ _
          rw [hid]
          refine ⟨V1, pre _ (E_bd (p3_told v1.1.2.2.2) ?_), F1, v1, k1, t1, more (by omega) m1, hoM, s1⟩
          rw [if_pos h4]
          exact E_gd (by decide) (E_if (fun _ => rfl) (fun q => absurd rfl q))
        · obtain ⟨V2, e2, f2, v2, k2, t2, m2, o2⟩ := c_noticeAll hG hc hm ho v1 k1 hmo hd m1 hB hoM h4 hw hl t1
          refine ⟨V2, pre _ (E_bd (p3_told v1.1.2.2.2) ?_), F1.trans (f2.mono (fun i q => by simp only [sD, sN, isSk] at q ⊢; omega)), v2, k2, t2, m2, o2, (s1.fr f2 (fun i a b => by unfold sN isSk; omega)).mom _⟩
          rw [if_neg h4]
          exact E_gd (by decide) (E_if (fun q => absurd q (by decide)) (fun _ => E_bd e2 rfl))
end

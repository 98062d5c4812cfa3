/-! an hour comes (class): who watches, all duties, the whole -/
/-- bits of a mask -/
def bmk (x : Int) (P : Int → Prop) : Prop := (0 ≤ x ∧ x < 1024) ∧ ∀ l, 0 ≤ l → l < 10 → ((shr x l) % 2 = 0 ↔ ¬ P l)
theorem shr_bit {x l : Int} (hx : 0 ≤ x) (hl : 0 ≤ l) : (shr x l) % 2 = if x.toNat.testBit l.toNat = true then 1 else 0 := by
  unfold shr
  obtain ⟨a, rfl⟩ : ∃ a : Nat, x = (a : Int) := ⟨x.toNat, by omega⟩
  obtain ⟨b, rfl⟩ : ∃ b : Nat, l = (b : Int) := ⟨l.toNat, by omega⟩
  simp only [Int.toNat_natCast]
  rw [← Int.natCast_ediv]
  have h := Nat.testBit_eq_decide_div_mod_eq (x := a) (i := b)
  simp only [h, decide_eq_true_eq]
  by_cases q : a / 2 ^ b % 2 = 1
  · rw [if_pos q]; omega
  · rw [if_neg q]; omega
theorem shl1 {l : Int} (hl : 0 ≤ l) : shl 1 l = ((2 ^ l.toNat : Nat) : Int) := by unfold shl; omega
theorem shl1_lt {l : Int} (hl : 0 ≤ l) (h : l < 10) : 0 ≤ shl 1 l ∧ shl 1 l < 1024 := by
  rw [shl1 hl]
  have h1 : 2 ^ l.toNat < 2 ^ 10 := Nat.pow_lt_pow_right (by decide) (by omega)
  exact ⟨Int.natCast_nonneg _, Int.ofNat_lt.mpr h1⟩
theorem bmk_0 {P : Int → Prop} (h : ∀ l, ¬ P l) : bmk 0 P := ⟨by decide, fun l h0 _ => ⟨fun _ => h l, fun _ => by rw [shr_bit (by decide) h0]; simp⟩⟩
theorem bmk_or {x a : Int} {P : Int → Prop} (h : bmk x P) (ha : 0 ≤ a) (ha2 : a < 10) : bmk (bor x (shl 1 a)) (fun l => P l ∨ l = a) := by
  obtain ⟨⟨h1, h2⟩, h3⟩ := h
  have hs := shl1_lt ha ha2
  have hb : (bor x (shl 1 a)) = ((x.toNat ||| (2 ^ a.toNat) : Nat) : Int) := by unfold bor; rw [shl1 ha]; rfl
  refine ⟨⟨by rw [hb]; omega, ?_⟩, fun l l0 l1 => ?_⟩
  · rw [hb]
    have : x.toNat ||| 2 ^ a.toNat < 2 ^ 10 := Nat.or_lt_two_pow (by omega) (Nat.pow_lt_pow_right (by decide) (by omega))
    omega
  · have q := h3 l l0 l1
    rw [shr_bit h1 l0] at q
    rw [shr_bit (by rw [hb]; omega) l0, hb, Int.toNat_natCast, Nat.testBit_or, Nat.testBit_two_pow]
    by_cases e : l = a
    · subst e; simp
    · have : ¬ a.toNat = l.toNat := by omega
      simp only [this, decide_false, Bool.or_false, e, or_false]
      exact q
section
variable {G : mG} {V : mV} {cr c mo : Nat} {C : mCy} {B : Int}
theorem watM_ok {clock day p : Int} {M : mMo} (h : okM (cn C) M) (hp : 0 ≤ p ∧ p < cn C) : okM (cn C) (watM C clock day p M) := by
  unfold watM
  by_cases q : mw M p ≠ -1 ∧ ml M p ≠ -1 ∧ ¬ busy C clock (ml M p)
  · rw [if_pos q]
    have hw := h.2.2.2.1 p hp.1 hp.2
    refine ⟨h.1, h.2.1, h.2.2.1, h.2.2.2.1, fun a b a1 a2 b1 b2 => ?_, fun a a1 a2 => ?_, h.2.2.2.2.2.2⟩
    · show 0 ≤ ug (mp M) p (mw M p) _ a b ∧ ug (mp M) p (mw M p) _ a b ≤ 99
      unfold ug
      split
      · exact made_rg (h.2.2.2.2.1 p (mw M p) hp.1 hp.2 (by omega) hw.2.1)
      · exact h.2.2.2.2.1 a b a1 a2 b1 b2
    · show ug (mp M) p (mw M p) _ a a = 99
      unfold ug
      rw [if_neg (by rintro ⟨q1, q2⟩; omega)]
      exact h.2.2.2.2.2.1 a a1 a2
  · rw [if_neg q]; exact h
theorem c_watch (hG : is2 G cr) (hc : is1 G c) (hm : is4 G mo) (ho : okC C) (hv : vC V c C) (hk : kC V cr) (hmo : cr + 10 < mo) (hd : mo + 8 < c) {M : mMo} (hM : vM V mo (cn C) M B) (hoM : okM (cn C) M) {x clock day : Int} (hx : bmk x (busy C clock)) (ht : clock = mh M % 24 ∧ day = mh M / 24) (htm : tmK V cr clock day) :
    ∃ V', F_X2_watchAll G cr c mo x V = some (V', 0) ∧ fr (sW cr c mo) V V' ∧ vC V' c C ∧ kC V' cr ∧ vM V' mo (cn C) (itr (watM C clock day) 0 (cn C).toNat M) B ∧ okM (cn C) (itr (watM C clock day) 0 (cn C).toNat M) := by
  have hn := ho.1
  obtain ⟨x0, x1⟩ := hx.1
  have hsame : ∀ (m : Nat) (k : Int) (M : mMo), mh (itr (watM C clock day) k m M) = mh M := by
    intro m
    induction m with
    | zero => intro k M; rfl
    | succ m ih => intro k M; unfold itr; rw [ih]; unfold watM; split <;> rfl
  have key : Wp (lp (fun (s : Int) V => B_X2_watchAll_3 G cr c mo x s V) FU 0 V) (fun V' q => fr (sW cr c mo) V V' ∧ vC V' c C ∧ kC V' cr ∧ vM V' mo (cn C) (itr (watM C clock day) 0 (cn C).toNat M) B ∧ okM (cn C) (itr (watM C clock day) 0 (cn C).toNat M)) := by
    refine W_lp (fun w k U => 0 ≤ k ∧ k + w = cn C ∧ fr (sW cr c mo) V U ∧ vC U c C ∧ kC U cr ∧ ∃ Mk, mh Mk = mh M ∧ vM U mo (cn C) Mk B ∧ okM (cn C) Mk ∧ itr (watM C clock day) k w Mk = itr (watM C clock day) 0 (cn C).toNat M) ?_ FU (cn C).toNat 0 V ⟨by omega, by omega, fr_refl, hv, hk, M, rfl, hM, hoM, rfl⟩ (by unfold FU; omega)
    rintro w k U ⟨h0, hkw, hf, hvU, hkU, Mk, hmh, hMk, hok, hit⟩
    have hsz : gI U (c + 1) 1 = cn C := hvU.2.1.1.1
    unfold B_X2_watchAll_3
    refine W_be p7_size (W_gd ⟨by omega, by omega⟩ (W_gd (by rw [hsz]; exact ⟨by omega, by omega⟩) ?_))
    rw [hsz]
    refine W_if (fun q => W_so (Or.inr ⟨Nat.one_ne_zero, ?_⟩)) (fun q => ?_)
    · have : w = 0 := by omega
      subst this
      have hit' : Mk = itr (watM C clock day) 0 (cn C).toNat M := hit
      rw [← hit']
      exact ⟨hf, hvU, hkU, hMk, hok⟩
    · obtain ⟨w, rfl⟩ : ∃ w', w = w' + 1 := ⟨w - 1, by omega⟩
      have hit' : itr (watM C clock day) (k + 1) w (watM C clock day k Mk) = itr (watM C clock day) 0 (cn C).toNat M := hit
      have hp : 0 ≤ k ∧ k < cn C := ⟨h0, by omega⟩
      have hlv := hok.2.1 k h0 hp.2
      have hwa := hok.2.2.2.1 k h0 hp.2
      have skip : watM C clock day k Mk = Mk → Wp (lt (k + 1) fun y => some (U, (0, y))) (fun (V' : mV) (q : Nat × Int) => (q.1 = 0 ∧ ∃ w', w' < w + 1 ∧ (0 ≤ q.2 ∧ q.2 + w' = cn C ∧ fr (sW cr c mo) V V' ∧ vC V' c C ∧ kC V' cr ∧ ∃ Mk, mh Mk = mh M ∧ vM V' mo (cn C) Mk B ∧ okM (cn C) Mk ∧ itr (watM C clock day) q.2 w' Mk = itr (watM C clock day) 0 (cn C).toNat M)) ∨ (q.1 ≠ 0 ∧ fr (sW cr c mo) V V' ∧ vC V' c C ∧ kC V' cr ∧ vM V' mo (cn C) (itr (watM C clock day) 0 (cn C).toNat M) B ∧ okM (cn C) (itr (watM C clock day) 0 (cn C).toNat M))) := by
        intro e
        refine W_lt (W_so (Or.inl ⟨rfl, w, by omega, by show 0 ≤ k + 1; omega, by show k + 1 + (w : Int) = cn C; omega, hf, hvU, hkU, Mk, hmh, hMk, hok, by rw [e] at hit'; exact hit'⟩))
      refine W_be (rw_get (s4_1s hm) (s4_1c hm) hMk.2.1 (by omega) hp) (W_be (rw_get (s4_2s hm) (s4_2c hm) hMk.2.2.1 (by omega) hp) (W_gd ⟨by omega, by omega⟩ (W_if (fun e => skip ?_) (fun e1 => W_gd ⟨by omega, by omega⟩ (W_if (fun e => skip ?_) (fun e2 => W_gd ⟨by omega, by omega⟩ (W_gd ⟨by omega, by omega⟩ (W_gd ⟨by omega, by omega⟩ (W_if (fun e => ?_) (fun e => skip ?_))))))))))
      · unfold watM; rw [if_neg (fun q => q.1 e)]
      · unfold watM; rw [if_neg (fun q => q.2.1 e)]
      · have hnb : ¬ busy C clock (ml Mk k) := (hx.2 (ml Mk k) (by omega) (by omega)).mp e
        have hpt := hok.2.2.2.2.1 k (mw Mk k) h0 hp.2 (by omega) (by omega)
        have hh : gI U mo 0 = mh M := by rw [hMk.1, hmh]
        have hhr := hok.1
        obtain ⟨U1, g1, k1, f1, -⟩ := c_learned hG hc ho hvU hkU (by omega) (h := mh M) (by rw [← hmh]; exact hhr) hp (l := mw Mk k) ⟨by omega, by omega⟩ hpt
        have v1 := hvU.fr f1 (fun i a b q => by unfold sT; rintro (h | h); omega; exact q h)
        have m1 := hMk.fr f1 (fun i a b => by unfold sT isSk; omega)
        have hmd := made_rg (C := C) (w := 0) (p := k) (l := mw Mk k) (clock := mh M % 24) (day := mh M / 24) hpt
        obtain ⟨U2, g2, f2, m2⟩ := m_setP hm (by omega) m1 (v := made C 0 k (mw Mk k) (mp Mk k (mw Mk k)) (mh M % 24) (mh M / 24)) hp (l := mw Mk k) ⟨by omega, by omega⟩ ⟨by omega, by omega⟩
        have hwe : watM C clock day k Mk = (mh Mk, ml Mk, mw Mk, ug (mp Mk) k (mw Mk k) (max 0 (min 99 (made C 0 k (mw Mk k) (mp Mk k (mw Mk k)) (mh M % 24) (mh M / 24)))), me Mk) := by
          unfold watM
          rw [if_pos ⟨e1, e2, hnb⟩, ht.1, ht.2, show max 0 (min 99 (made C 0 k (mw Mk k) (mp Mk k (mw Mk k)) (mh M % 24) (mh M / 24))) = made C 0 k (mw Mk k) (mp Mk k (mw Mk k)) (mh M % 24) (mh M / 24) by omega]
        have hok2 := watM_ok (clock := clock) (day := day) hok hp
        have m2' : vM U2 mo (cn C) (watM C clock day k Mk) B := by rw [hwe]; exact m2
        have hmh2 : mh (watM C clock day k Mk) = mh M := by rw [hwe]; exact hmh
        refine W_be (m_points hm (by omega) hMk hp ⟨by omega, by omega⟩) ?_
        rw [hh]
        refine W_be g1 (W_be g2 (W_lt (W_so (Or.inl ⟨rfl, w, by omega, by show 0 ≤ k + 1; omega, by show k + 1 + (w : Int) = cn C; omega, ?_, v1.fr f2 (fun i a b _ => by omega), k1.fr f2 (by omega) (by omega), _, hmh2, m2', hok2, hit'⟩))))
        exact (hf.trans (f1.mono (fun i q => by simp only [sW, sT, isSk] at q ⊢; omega))).trans (f2.mono (fun i q => by unfold sW; omega))
      · unfold watM
        rw [if_neg]
        rintro ⟨-, -, q⟩
        exact e ((hx.2 (ml Mk k) (by omega) (by omega)).mpr q)
  obtain ⟨V', q, e, h⟩ := key
  refine ⟨V', ?_, h⟩
  unfold F_X2_watchAll
  exact E_bd e rfl
end

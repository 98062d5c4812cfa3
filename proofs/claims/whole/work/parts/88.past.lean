/-! moments remembered and recalled -/
def m00 : mMo := (0, k0, k0, fun _ _ => 0, [])
/-- the class's past -/
def vPa (V : mV) (y : Nat) (n : Int) (P : List mMo) : Prop := gI V y 1 = (P.length : Int) ∧ P.length ≤ 20 ∧ (0 ≤ gI V y 2 ∧ gI V y 2 < 20) ∧ ∀ i : Nat, i < P.length → vM V (y + 2 + 9 * ((gI V y 2 - 1 - i) % 20).toNat) n (P.getD i m00) (240 * mh (P.getD i m00))
/-- the reference's -/
def rPa (V : mV) (m : Nat) (n : Int) (P : List mMo) : Prop := gI V m 69 = (P.length : Int) ∧ P.length ≤ 20 ∧ (0 ≤ gI V m 70 ∧ gI V m 70 < 20) ∧ ∀ i : Nat, i < P.length → rM (fun k => gA V (m + 44) (282 * ((gI V m 70 - i) % 20).toNat + k)) n (P.getD i m00)
theorem tk_len {M : mMo} {P : List mMo} (h : P.length ≤ 20) : (((M :: P).take 20).length : Int) = min ((P.length : Int) + 1) 20 := by
  rw [List.length_take, List.length_cons]; omega
theorem tk_get {M : mMo} {P : List mMo} {i : Nat} (h : i < 20) : ((M :: P).take 20).getD i m00 = (M :: P).getD i m00 := by
  rw [List.getD_eq_getElem?_getD, List.getD_eq_getElem?_getD, List.getElem?_take, if_pos h]
theorem cn_get {M : mMo} {P : List mMo} {i : Nat} : (M :: P).getD (i + 1) m00 = P.getD i m00 := by
  rw [List.getD_eq_getElem?_getD, List.getD_eq_getElem?_getD, List.getElem?_cons_succ]
theorem gI_21 {V : mV} {y : Nat} {a b : Int} : gI (sI (sI V y 2 a) y 1 b) y 2 = a := by
  rw [gI_sI, if_neg (by rintro ⟨-, q⟩; cases q), gI_sI, if_pos ⟨rfl, rfl⟩]
section
variable {G : mG} {V : mV} {y mo m : Nat} {n : Int} {M : mMo} {P : List mMo}
theorem c_remember (hy : is5 G y) (hm : is4 G mo) (hd : y + 181 < mo) (hn : 0 ≤ n ∧ n ≤ 10) (hM : vM V mo n M (240 * mh M)) (hP : vPa V y n P) :
    ∃ V', F_X5_remember G y mo V = some (V', 0) ∧ fr (fun i => y ≤ i ∧ i ≤ y + 181) V V' ∧ vPa V' y n ((M :: P).take 20) := by
  obtain ⟨p1, p2, p3, p4⟩ := hP
  have hb := s5_m hy (gI V y 2).toNat (by omega)
  obtain ⟨V1, e1, k1, w1⟩ := m_copy (V := V) hm hb (by omega) hn hM
  have i1 : gI V1 y 1 = gI V y 1 := k1.I (by omega) 1
  have i2 : gI V1 y 2 = gI V y 2 := k1.I (by omega) 2
  have h1 : gI (sI V1 y 2 ((gI V1 y 2 + 1).tmod 20)) y 1 = (P.length : Int) := by rw [gI_sI, if_neg (by rintro ⟨-, q⟩; cases q), i1]; exact p1
  have ht : (gI V1 y 2 + 1).tmod 20 = (gI V y 2 + 1) % 20 := by rw [i2]; exact Int.tmod_eq_emod_of_nonneg (by omega)
  obtain ⟨U, hU⟩ : ∃ U, U = sI (sI V1 y 2 ((gI V1 y 2 + 1).tmod 20)) y 1 (min (gI (sI V1 y 2 ((gI V1 y 2 + 1).tmod 20)) y 1 + 1) 20) := ⟨_, rfl⟩
  have k2 : fr (fun i => i = y) V1 U := by rw [hU]; exact (fr_sI (S := fun i => i = y) rfl).trans (fr_sI (S := fun i => i = y) rfl)
  have u1 : gI U y 1 = min ((P.length : Int) + 1) 20 := by rw [hU, gI_sI, if_pos ⟨rfl, rfl⟩, h1]
  have u2 : gI U y 2 = (gI V y 2 + 1) % 20 := by rw [hU, gI_21, ht]
  refine ⟨U, ?_, (k1.mono (fun i q => by omega)).trans (k2.mono (fun i q => by omega)), ?_, ?_, ?_, ?_⟩
  · unfold F_X5_remember
    rw [hU]
    refine E_gd p3 (E_bd e1 (E_gd (by rw [i2]; exact ⟨by omega, by omega⟩) (E_lt (E_gd (by rw [h1]; exact ⟨by omega, by omega⟩) (E_lt rfl)))))
  · rw [u1, tk_len p2]
  · rw [List.length_take]; omega
  · rw [u2]; omega
  · intro i hi
    have hi20 : i < 20 := by rw [List.length_take] at hi; omega
    rw [tk_get hi20, u2]
    cases i with
    | zero =>
      have e : (((gI V y 2 + 1) % 20 - 1 - ((0 : Nat) : Int)) % 20).toNat = (gI V y 2).toNat := by omega
      rw [e]
      exact w1.fr k2 (fun i a b => by omega)
    | succ i =>
      have hi' : i < P.length := by rw [List.length_take, List.length_cons] at hi; omega
      have e : (((gI V y 2 + 1) % 20 - 1 - ((i + 1 : Nat) : Int)) % 20).toNat = ((gI V y 2 - 1 - (i : Int)) % 20).toNat := by omega
      rw [e, cn_get]
      have q := p4 i hi'
      have ne : ((gI V y 2 - 1 - (i : Int)) % 20).toNat ≠ (gI V y 2).toNat := by omega
      have l20 : ((gI V y 2 - 1 - (i : Int)) % 20).toNat < 20 := by omega
      exact (q.fr k1 (fun j a b => by omega)).fr k2 (fun j a b => by omega)
theorem c_recall0 (hP : vPa V y n []) : F_X5_recall G y mo V = some (V, 0) := by
  obtain ⟨p1, p2, p3, -⟩ := hP
  have z : gI V y 1 = 0 := p1
  unfold F_X5_recall
  exact E_gd ⟨by omega, by omega⟩ (E_gd ⟨by omega, by omega⟩ (E_gd (by rw [z]; exact ⟨by omega, by omega⟩) (E_if (fun _ => rfl) (fun q => absurd z q))))
theorem c_recall (hy : is5 G y) (hm : is4 G mo) (hd : y + 181 < mo) (hn : 0 ≤ n ∧ n ≤ 10) (hP : vPa V y n (M :: P)) :
    ∃ V', F_X5_recall G y mo V = some (V', 1) ∧ fr (fun i => i = y ∨ (mo ≤ i ∧ i ≤ mo + 8)) V V' ∧ vM V' mo n M (240 * mh M) ∧ vPa V' y n P := by
  obtain ⟨p1, p2, p3, p4⟩ := hP
  have p1' : gI V y 1 = (P.length : Int) + 1 := p1
  have hl : P.length + 1 ≤ 20 := p2
  have q0 := p4 0 (Nat.succ_pos _)
  have e0 : ((gI V y 2 - 1 - ((0 : Nat) : Int)) % 20).toNat = ((gI V y 2 - 1) % 20).toNat := by omega
  rw [e0] at q0
  have hb := s5_m hy ((gI V y 2 - 1) % 20).toNat (by omega)
  have l20 : ((gI V y 2 - 1) % 20).toNat < 20 := by omega
  obtain ⟨V1, e1, k1, w1⟩ := m_copy (V := V) (a := y + 2 + 9 * ((gI V y 2 - 1) % 20).toNat) (b := mo) hb hm (by omega) hn q0
  have i1 : gI V1 y 1 = gI V y 1 := k1.I (by omega) 1
  have i2 : gI V1 y 2 = gI V y 2 := k1.I (by omega) 2
  have h1 : gI (sI V1 y 2 ((gI V1 y 2 - 1) % 20)) y 1 = (P.length : Int) + 1 := by rw [gI_sI, if_neg (by rintro ⟨-, q⟩; cases q), i1]; exact p1'
  obtain ⟨U, hU⟩ : ∃ U, U = sI (sI V1 y 2 ((gI V1 y 2 - 1) % 20)) y 1 (gI (sI V1 y 2 ((gI V1 y 2 - 1) % 20)) y 1 - 1) := ⟨_, rfl⟩
  have k2 : fr (fun i => i = y) V1 U := by rw [hU]; exact (fr_sI (S := fun i => i = y) rfl).trans (fr_sI (S := fun i => i = y) rfl)
  have u1 : gI U y 1 = (P.length : Int) := by rw [hU, gI_sI, if_pos ⟨rfl, rfl⟩, h1]; omega
  have u2 : gI U y 2 = (gI V y 2 - 1) % 20 := by rw [hU, gI_21, i2]
  refine ⟨U, ?_, (k1.mono (fun i q => by omega)).trans (k2.mono (fun i q => by omega)), w1.fr k2 (fun i a b => by omega), u1, by omega, ?_, ?_⟩
  · unfold F_X5_recall
    rw [hU]
    exact E_gd ⟨by omega, by omega⟩ (E_gd ⟨by omega, by omega⟩ (E_gd ⟨by omega, by omega⟩ (E_if (fun q => by omega) (fun _ => E_bd e1 (E_gd (by rw [i2]; exact ⟨by omega, by omega⟩) (E_lt (E_lt rfl)))))))
  · rw [u2]; omega
  · intro i hi
    rw [u2]
    have q := p4 (i + 1) (Nat.succ_lt_succ hi)
    rw [cn_get] at q
    have e : (((gI V y 2 - 1) % 20 - 1 - (i : Int)) % 20).toNat = ((gI V y 2 - 1 - ((i + 1 : Nat) : Int)) % 20).toNat := by omega
    rw [e]
    have l2 : ((gI V y 2 - 1 - ((i + 1 : Nat) : Int)) % 20).toNat < 20 := by omega
    exact (q.fr k1 (fun j a b => by omega)).fr k2 (fun j a b => by omega)
end

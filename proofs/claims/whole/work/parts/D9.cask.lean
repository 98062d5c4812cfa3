/-! hours asked (class): the loop, the answer -/
/-- what the hours of a question change: the stack, the facts, the course, the moment aside, a city's stacks, the tally -/
def sAk (x c r2 i : Nat) : Prop := i = x + 26 ∨ i = x + 29 ∨ (x + 32 ≤ i ∧ i ≤ x + 37) ∨ (x + 236 ≤ i ∧ i ≤ x + 244) ∨ isSk c i ∨ i = r2
theorem askK_in {M : mMo} {j : Nat} (h : 0 ≤ mh M ∧ mh M ≤ 9999) (hj : mh M + (j : Int) ≤ 9999) (h48 : j ≤ 47) (he : mh M + (j : Int) = 9999) : askK M = j + 1 := by
  unfold askK; omega
theorem askK_48 {M : mMo} (hj : mh M + ((48 : Nat) : Int) ≤ 9999) : askK M = 48 := by
  unfold askK; omega
section
variable {G : mG} {V : mV} {x c r2 n1 z1 : Nat} {C : mCy} {B : Int} {M : mMo} {p : Int} {cs : List Int} {b : Bool}
theorem c_askL (hG : is9 G x) (h8 : is8 G r2) (hr2 : x + 327 ≤ r2) (ec : gR G x 10 = c) (hcb : x + 245 ≤ c ∧ c + 40 < x + 327) (ho : okC C) (hoM : okM (cn C) M) (hp : 0 ≤ p ∧ p < cn C) (hc : okc b 40 cs) (hpk : pkS (alS 3) (3 = 3) cs) (hv : vC V c C) (hk : kC V (x + 27)) (hM : vM V (x + 236) (cn C) M B) (hB : B ≤ 3000000) (hS : kS V (x + 27) (cn C) (s0 M)) (hF : vF V (x + 22) cs) (hT : vTl V r2 tl0) :
    Wp (lp (fun (s : Int) (Z : mW) => B_X9_answer_28 x r2 p s Z) FU 0 (n1, z1, G, V)) (fun Z _ => ∃ U, Z = (n1, z1, G, U) ∧ frt r2 (sAk x c r2) V U ∧ vC U c C ∧ kC U (x + 27) ∧ (∃ S, kS0 U (x + 27) S) ∧ vTl U r2 (askT C M p cs (askK M))) := by
  have hn := ho.1
  have hh := hoM.1
  have hc1 : is1 G c := by rw [← ec]; exact s9_10s hG
  have hm := s9_9s hG
  have hG5 := s9_5s hG
  have hq := s6_9s (s9_4s hG)
  refine W_lp (fun w (k : Int) (Z : mW) => ∃ (j : Nat) (U : mV), k = (j : Int) ∧ j + w = 48 ∧ Z = (n1, z1, G, U) ∧ mh M + (j : Int) ≤ 9999 ∧ frt r2 (sAk x c r2) V U ∧ vC U c C ∧ kC U (x + 27) ∧ vM U (x + 236) (cn C) (askY C (M, fun _ => 0) j).1 (B + 240 * (j : Int)) ∧ (∃ S, S.1 = (askY C (M, fun _ => 0) j).1 ∧ S.2.2.2 = (askY C (M, fun _ => 0) j).2 ∧ kS U (x + 27) (cn C) S) ∧ vF U (x + 22) cs ∧ vTl U r2 (askT C M p cs j)) ?_ FU 48 _ (n1, z1, G, V) ⟨0, V, rfl, rfl, rfl, by show mh M + ((0 : Nat) : Int) ≤ 9999; omega, frt_refl, hv, hk, by rw [show B + 240 * ((0 : Nat) : Int) = B by omega]; exact hM, ⟨s0 M, rfl, rfl, hS⟩, hF, hT⟩ (by unfold FU; decide)
  rintro w k Z ⟨j, U, rfl, hjw, rfl, hj, f, vc, kc, vm, ⟨S, S1, S4, ks⟩, vf, vt⟩
  obtain ⟨⟨okj, mhj⟩, dj⟩ := askY_ok ho hoM j hj
  obtain ⟨y, hy⟩ : ∃ y, y = askY C (M, fun _ => 0) j := ⟨_, rfl⟩
  have hs1 : askT C M p cs (j + 1) = tlS (askT C M p cs j) (mh M + (j : Int)) (qV C y p cs) := by rw [hy]; rfl
  have hn1 : askY C (M, fun _ => 0) (j + 1) = askN C y := by rw [hy]; rfl
  rw [← hy] at okj mhj dj vm S1 S4
  have g0 : gI U (x + 236) 0 = mh M + (j : Int) := vm.1.trans mhj
  have tb := askT_ok ho hoM hp hc j (by omega)
  unfold B_X9_answer_28
  refine W_gd ⟨hG, h8⟩ (W_gd ⟨by omega, by omega⟩ (W_if (fun z => W_so (Or.inr ⟨(show (2 : Nat) ≠ 0 by decide), ?_⟩)) (fun z => ?_)))
  · have e : j = 48 := by omega
    rw [askK_48 (M := M) (by omega), ← e]
    exact ⟨U, rfl, f, vc, kc, ⟨S, ks.to0⟩, vt⟩
  · show Wp (gd (rg (gI U (x + 236) 0)) (if 9999 < gI U (x + 236) 0 then some ((n1, z1, G, U), 2, (j : Int)) else (bd (F_X2_setAskFacts G (x + 27) (gR G x 10) (x + 236) p U) fun V22 v23 =>
  bd (F_X3_value G (x + 22) (x + 28) V22) fun V25 v26 =>
  bd (F_X8_count G r2 (gI V22 (x + 236) 0) v26 V25) fun V28 v29 =>
  gd (rg (gI V28 (x + 236) 0)) <|
  if (gI V28 (x + 236) 0) = 9999 then (some ((n1, z1, G, V28), 1, (j : Int))) else (bd (F_X2_comes G (x + 27) (gR G x 10) (x + 236) V28) fun V33 v34 =>
  lt ((j : Int) + 1) fun y36 =>
  some ((n1, z1, G, V33), 0, y36))))) _
    rw [g0, ec]
    refine W_gd ⟨by omega, by omega⟩ (W_if (fun q => absurd q (by omega)) (fun _ => ?_))
    obtain ⟨U1, e1, k1, q1, o1, a1⟩ := c_askF (V := U) hG5 hc1 hm ho vc kc (by omega) (by omega) vm okj (d := y.2) (by rw [← S4]; exact ks.2.2.1) dj hp
    have vf1 : vF U1 (x + 22) cs := vf.fr k1 (by omega) (by omega) (by omega)
    obtain ⟨g, e2⟩ := c_qval1 (f := x + 22) (V := U1) (M := y.1) hG5 hq vf1 q1 (by omega) hpk o1 a1 ho okj hp (dj p) hc
    obtain ⟨U2, hU2⟩ : ∃ U2, U2 = sF U1 (x + 22 + 4) g := ⟨_, rfl⟩
    rw [← hU2] at e2
    have k2 : fr (fun i => i = x + 26) U1 U2 := by rw [hU2]; exact fr_sF rfl
    have k12 : fr (sAk x c r2) U U2 := (k1.mono (fun i q => by unfold sAk isSk; omega)).trans (k2.mono (fun i q => by unfold sAk isSk; omega))
    have nr2 : ∀ i, isSk c i → i < x + 327 := fun i q => by unfold isSk at q; omega
    have r2o : ∀ {t : mTl} {W1 W2 : mV}, fr (fun i => i < x + 327) W1 W2 → vTl W1 r2 t → vTl W2 r2 t := by
      intro t W1 W2 kk ⟨t0, t1, t2, t3, t4, t5, t6⟩
      have o : gI W2 r2 = gI W1 r2 := by funext q; exact kk.I (by omega) q
      exact ⟨by rw [o]; exact t0, by rw [o]; exact t1, by rw [o]; exact t2, by rw [o]; exact t3, by rw [kk.1]; exact t4, by rw [o]; exact t5, by rw [o]; exact t6⟩
    have vt2 : vTl U2 r2 (askT C M p cs j) := r2o ((k1.mono (fun i q => by omega)).trans (k2.mono (fun i q => by omega))) vt
    have qb := qV_ok (d := y.2) ho okj hp ⟨(dj p).1, by have := (dj p).2; omega⟩ hc
    have qe : qV C (y.1, y.2) p cs = qV C y p cs := rfl
    rw [qe] at e2 qb
    obtain ⟨U3, e3, k3, vt3⟩ := c_tally (G := G) (h := mh M + (j : Int)) vt2 tb (by omega) qb.2.1
    rw [← hs1] at vt3
    have k3f : fr (fun i => i = r2) U2 (U3.1, U2.2.1, U3.2.2) := k3.to
    have kU3 : fr (fun i => i = x + 29 ∨ i = x + 26 ∨ i = r2) U (U3.1, U2.2.1, U3.2.2) := ((k1.mono (fun i q => by omega)).trans (k2.mono (fun i q => by omega))).trans (k3f.mono (fun i q => by omega))
    have f3 : frt r2 (sAk x c r2) V U3 := (f.trans k12.t).trans (k3.mono (fun i q => by unfold sAk isSk; omega))
    have vc3 : vC U3 c C := vc.fr (V1 := (U3.1, U2.2.1, U3.2.2)) kU3 (fun i p0 p1 _ => by omega)
    have kc3 : kC U3 (x + 27) := q1.fr (V1 := (U3.1, U2.2.1, U3.2.2)) ((k2.mono (fun i q => Or.inl q)).trans (k3f.mono (fun i q => Or.inr q)) : fr (fun i => i = x + 26 ∨ i = r2) U1 (U3.1, U2.2.1, U3.2.2)) (by omega) (by omega)
    have vm3 : vM U3 (x + 236) (cn C) y.1 (B + 240 * (j : Int)) := vm.fr (V1 := (U3.1, U2.2.1, U3.2.2)) kU3 (fun i p0 p1 => by omega)
    have ks3 : kS U3 (x + 27) (cn C) S := ks.fr (V1 := (U3.1, U2.2.1, U3.2.2)) kU3 (fun i p0 p1 => by omega)
    have vf3 : vF U3 (x + 22) cs := vf.fr (V1 := (U3.1, U2.2.1, U3.2.2)) kU3 (by omega) (by omega) (by omega)
    have g1 : gI U1 (x + 236) 0 = mh M + (j : Int) := by rw [k1.I (by omega)]; exact g0
    have g3 : gI U3 (x + 236) 0 = mh M + (j : Int) := vm3.1.trans mhj
    refine W_be e1 (W_be e2 ?_)
    rw [g1]
    refine W_be e3 ?_
    rw [g3]
    refine W_gd ⟨by omega, by omega⟩ (W_if (fun q => W_so (Or.inr ⟨Nat.one_ne_zero, ?_⟩)) (fun q => ?_))
    · rw [askK_in (M := M) hh hj (by omega) q]
      exact ⟨U3, rfl, f3, vc3, kc3, ⟨S, ks3.to0⟩, vt3⟩
    · obtain ⟨U4, e4, k4, vc4, kc4, vm4, ok4, ks4⟩ := c_comes (V := U3) (S := S) hG5 hc1 hm ho vc3 kc3 (by omega) (by omega) (by rw [S1]; exact vm3) (by omega) (by rw [S1]; exact okj) (by rw [S1]; omega) ks3.to0
      have eD := eqD_hour (C := C) (S := (S.1, S.2.1, S.2.2.1, fun _ => 0)) (S' := s0 y.1) ⟨S1, rfl⟩
      have k4f : fr (sAk x c r2) U3 U4 := k4.mono (fun i q => by simp only [sH, isSk] at q; unfold sAk isSk; omega)
      refine W_be e4 (W_lt (W_so (Or.inl ⟨rfl, w - 1, by omega, j + 1, U4, by show (j : Int) + 1 = ((j + 1 : Nat) : Int); omega, by omega, rfl, by omega, f3.trans k4f.t, vc4, kc4, ?_, ⟨_, ?_, ?_, ks4⟩, vf3.fr k4 (by simp only [sH]; unfold isSk; omega) (by simp only [sH]; unfold isSk; omega) (by simp only [sH]; unfold isSk; omega), ?_⟩)))
      · rw [hn1]
        have e := eD.1
        show vM U4 (x + 236) (cn C) (hourS C (s0 y.1)).1 _
        rw [← e, show B + 240 * ((j + 1 : Nat) : Int) = B + 240 * (j : Int) + 240 by omega]
        exact vm4
      · rw [hn1]; exact eD.1
      · rw [hn1]; exact eD.2
      · exact r2o (k4.mono (fun i q => by simp only [sH, isSk] at q; omega)) vt3
end

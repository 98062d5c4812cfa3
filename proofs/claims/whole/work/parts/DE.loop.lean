/-! THE LAW'S LOOP: every call alike, on and on -/
theorem rg_x {x : Int32} : rg x.toInt := by
  have h1 := Int32.le_toInt x
  have h2 := Int32.toInt_lt x
  exact ⟨by omega, by omega⟩
section
variable {G : mG} {V : mV} {x m n z N : Nat} {Y : mY}
/-- one call of both -/
theorem law_tl {f g : mV → Option (mV × Int)} {Q : mW → Nat × Int → Prop} (hS : STEP G x m N f g Y) (hm : m = x + 327) (hv : vY G V x Y) (hr : rY V m Y) {k : Int} {t : Nat} (hQ : ∀ V2 Y', vY G V2 x Y' → rY V2 m Y' → okA (N + 1) Y' → Q (n, z, G, V2) (0, k + 6)) :
    Wp (bd (f V) fun V1 v1 => bd (g V1) fun V2 v2 => gd (rg v1) <| gd (rg v2) <| if v1 = v2 then (lt (k + 6) fun y => some ((n, z, G, V2), 0, y)) else (some ((n, z, G, V2), t, k))) Q := by
  obtain ⟨Y', a, hC, hR, ho, ha⟩ := hS
  obtain ⟨V1, V2, e1, e2, v2, r2, -⟩ := both hm hC hR hv hr
  exact W_be e1 (W_be e2 (W_gd ha (W_gd ha (W_if (fun _ => W_lt (W_so (hQ V2 Y' v2 r2 ho))) (fun q => absurd rfl q)))))
theorem okA_0 : okA 0 Y00 := by
  have h0 := okS_00
  refine ⟨⟨⟨h0.1, okM_0 h0.1, fun Q hQ => absurd hQ (List.not_mem_nil)⟩, h0, ⟨Nat.zero_le _, fun j hj => ?_⟩, ⟨(⟨by decide, by decide⟩ : rg 0), (⟨by decide, by decide⟩ : rg (-1))⟩, ⟨Nat.zero_le _, fun a ha => absurd ha (List.not_mem_nil)⟩, ⟨Nat.zero_le _, rfl, fun q => absurd rfl q, fun i hi => ?_⟩, ⟨by decide, by decide⟩⟩, ⟨fun e he => absurd he (List.not_mem_nil), fun Q hQ => absurd hQ (List.not_mem_nil)⟩, fun k => ⟨Int.le_refl _, Int.le_refl _⟩, Nat.zero_le _⟩
  · have hj' : j < 0 := hj
    omega
  · have hi' : 3 * i + 2 < 0 := hi
    omega
/-- the loop's invariant -/
def lawI (x m n0 z0 : Nat) (w : Nat) (k : Int) (Z : mW) : Prop := ∃ (i n z : Nat) (G : mG) (V : mV) (Y : mY), k = 6 * (i : Int) ∧ i + w = 513 ∧ Z = (n, z, G, V) ∧ is9 G x ∧ is10 G m ∧ vY G V x Y ∧ rY V m Y ∧ okA i Y ∧ (n0 ≤ n ∧ n ≤ n0 + i) ∧ z ≤ z0 + i * a_nf 8
set_option maxHeartbeats 4000000 in
theorem law_lp {L : Nat} {xs : Nat → Int32} {n0 z0 : Nat} (hL : L ≤ 3072) (hm : m = x + 327) (hn0 : m + 72 ≤ n0) {Z0 : mW} (h : lawI x m n0 z0 513 0 Z0) :
    Wp (lp (fun (s : Int) (Z : mW) => B_L_law_18 L xs x m s Z) FU 0 Z0) (fun Z q => q.1 = 33 ∧ Z.1 ≤ n0 + 513 ∧ Z.2.1 ≤ z0 + 513 * a_nf 8) := by
  refine W_lp (lawI x m n0 z0) ?_ FU 513 0 Z0 h (by unfold FU; decide)
  rintro w k Z ⟨i, n, z, G, V, Y, rfl, hiw, rfl, hG, hG10, hv, hr, hA, ⟨hn1, hn2⟩, hz⟩
  have hmul : i * a_nf 8 ≤ 513 * a_nf 8 := Nat.mul_le_mul_right _ (by omega)
  unfold B_L_law_18
  refine W_gd ⟨hG, hG10⟩ (W_gd ⟨by omega, by omega⟩ (W_gd ⟨by omega, by omega⟩ (W_if (fun _ => W_so (Or.inr ⟨(show (33 : Nat) ≠ 0 by decide), rfl, by show n ≤ _; omega, by show z ≤ _; omega⟩)) (fun q0 => ?_))))
  have b : 6 * (i : Int) + 6 ≤ (L : Int) := by omega
  have hi : i < 512 := by omega
  have hq : ∀ V2 Y', vY G V2 x Y' → rY V2 m Y' → okA (i + 1) Y' → (fun (V' : mW) (q : Nat × Int) => (q.1 = 0 ∧ ∃ w', w' < w ∧ lawI x m n0 z0 w' q.2 V') ∨ (q.1 ≠ 0 ∧ (q.1 = 33 ∧ V'.1 ≤ n0 + 513 ∧ V'.2.1 ≤ z0 + 513 * a_nf 8))) (n, z, G, V2) (0, 6 * (i : Int) + 6) := by
    intro V2 Y' v2 r2 o2
    refine Or.inl ⟨rfl, w - 1, by omega, i + 1, n, z, G, V2, Y', by show 6 * (i : Int) + 6 = 6 * ((i + 1 : Nat) : Int); omega, by omega, rfl, hG, hG10, v2, r2, o2, ⟨hn1, by omega⟩, ?_⟩
    have em := Nat.succ_mul i (a_nf 8)
    show _ ≤ z0 + (i + 1) * a_nf 8
    have em2 : (i + 1) * a_nf 8 = i * a_nf 8 + a_nf 8 := em
    omega
  refine W_gd ⟨by omega, by omega, by omega⟩ (W_gd ⟨by omega, by omega⟩ ?_)
  refine W_if (fun _ => ?_) (fun _ => ?_)
  · exact W_gd ⟨by omega, by omega, by omega⟩ (W_gd ⟨by omega, by omega, by omega⟩ (W_gd ⟨by omega, by omega, by omega⟩ (W_gd ⟨by omega, by omega, by omega⟩ (W_gd ⟨by omega, by omega, by omega⟩ (law_tl (S_feed hG hm hA rg_x rg_x rg_x rg_x rg_x) hm hv hr hq)))))
  refine W_if (fun _ => ?_) (fun _ => ?_)
  · exact W_gd ⟨by omega, by omega, by omega⟩ (law_tl (S_end hG hm hA rg_x) hm hv hr hq)
  refine W_if (fun _ => ?_) (fun _ => ?_)
  · obtain ⟨G', V', e1, h9, h10, k1, v1⟩ := c_city (n := n) (z := z) hG hG10 hm hA hv
    have r1 : rY V' m Y := rY_lo hr (fun j h1 _ => by obtain ⟨y1, y2, y3, y4⟩ := k1 j h1; exact ⟨y1, y2, y3, y4⟩)
    obtain ⟨V2, e2, k2, r2⟩ := r_city h10 hA r1
    have o2 := okA_city hA
    have v2 : vY G' V2 x (yCity Y) := vY_up v1 hm (fun j hj => by obtain ⟨y1, y2, y3, y4⟩ := k2 j hj; exact ⟨y1, y3, y2, y4⟩) ⟨fun _ _ => rfl, fun _ _ _ => rfl, fun _ _ _ => rfl⟩
    refine W_be e1 (W_gd ⟨h9, h10⟩ (W_be e2 (W_gd o2.2 (W_gd o2.2 (W_if (fun _ => W_lt (W_so (Or.inl ⟨rfl, w - 1, by omega, i + 1, n, z, G', V2, yCity Y, by show 6 * (i : Int) + 6 = 6 * ((i + 1 : Nat) : Int); omega, by omega, rfl, h9, h10, v2, r2, o2.1, ⟨hn1, by omega⟩, ?_⟩))) (fun q => absurd rfl q))))))
    have em := Nat.succ_mul i (a_nf 8)
    show _ ≤ z0 + (i + 1) * a_nf 8
    have em2 : (i + 1) * a_nf 8 = i * a_nf 8 + a_nf 8 := em
    omega
  refine W_if (fun _ => ?_) (fun _ => ?_)
  · exact W_gd ⟨by omega, by omega, by omega⟩ (law_tl (S_fault hA rg_x) hm hv hr hq)
  refine W_if (fun _ => ?_) (fun _ => ?_)
  · exact W_gd ⟨by omega, by omega, by omega⟩ (law_tl (S_has hG hm hA rg_x) hm hv hr hq)
  refine W_if (fun _ => ?_) (fun _ => ?_)
  · exact W_gd ⟨by omega, by omega, by omega⟩ (W_gd ⟨by omega, by omega, by omega⟩ (W_gd ⟨by omega, by omega, by omega⟩ (law_tl (S_letter hG hA rg_x rg_x rg_x) hm hv hr hq)))
  refine W_if (fun _ => ?_) (fun _ => ?_)
  · exact W_gd ⟨by omega, by omega, by omega⟩ (W_gd ⟨by omega, by omega, by omega⟩ (law_tl (S_person hG hA rg_x rg_x) hm hv hr hq))
  refine W_if (fun _ => ?_) (fun _ => ?_)
  · exact W_gd ⟨by omega, by omega, by omega⟩ (W_gd ⟨by omega, by omega, by omega⟩ (law_tl (S_points hG hA rg_x rg_x) hm hv hr hq))
  refine W_if (fun _ => ?_) (fun _ => ?_)
  · exact W_gd ⟨by omega, by omega, by omega⟩ (W_gd ⟨by omega, by omega, by omega⟩ (W_gd ⟨by omega, by omega, by omega⟩ (W_gd ⟨by omega, by omega, by omega⟩ (law_tl (S_could hG hm hA rg_x rg_x rg_x rg_x) hm hv hr hq))))
  refine W_if (fun _ => ?_) (fun _ => ?_)
  · exact W_gd ⟨by omega, by omega, by omega⟩ (W_gd ⟨by omega, by omega, by omega⟩ (law_tl (S_kept hG hA rg_x rg_x) hm hv hr hq))
  refine W_if (fun _ => ?_) (fun _ => ?_)
  · exact W_gd ⟨by omega, by omega, by omega⟩ (W_gd ⟨by omega, by omega, by omega⟩ (law_tl (S_wave hG hm hA rg_x rg_x) hm hv hr hq))
  refine W_if (fun _ => ?_) (fun _ => ?_)
  · exact W_gd ⟨by omega, by omega, by omega⟩ (W_gd ⟨by omega, by omega, by omega⟩ (law_tl (S_would hG hm hA rg_x rg_x) hm hv hr hq))
  refine W_if (fun _ => ?_) (fun _ => ?_)
  · exact W_gd ⟨by omega, by omega, by omega⟩ (law_tl (S_first hG hm hA rg_x) hm hv hr hq)
  refine W_if (fun _ => ?_) (fun _ => ?_)
  · exact W_gd ⟨by omega, by omega, by omega⟩ (W_gd ⟨by omega, by omega, by omega⟩ (law_tl (S_best hG hm hA rg_x rg_x) hm hv hr hq))
  refine W_if (fun _ => ?_) (fun _ => ?_)
  · exact W_gd ⟨by omega, by omega, by omega⟩ (W_gd ⟨by omega, by omega, by omega⟩ (law_tl (S_study hG hm hA rg_x rg_x) hm hv hr hq))
  refine W_if (fun _ => ?_) (fun _ => ?_)
  · exact W_gd ⟨by omega, by omega, by omega⟩ (law_tl (S_change hG hm hA rg_x) hm hv hr hq)
  refine W_if (fun _ => ?_) (fun _ => ?_)
  · exact W_gd ⟨by omega, by omega, by omega⟩ (law_tl (S_ring hG hA rg_x) hm hv hr hq)
  refine W_if (fun _ => ?_) (fun _ => ?_)
  · exact W_gd ⟨by omega, by omega, by omega⟩ (W_gd ⟨by omega, by omega, by omega⟩ (W_gd ⟨by omega, by omega, by omega⟩ (law_tl (S_odds hG hm hA rg_x rg_x rg_x) hm hv hr hq)))
  refine W_if (fun _ => ?_) (fun _ => ?_)
  · exact W_gd ⟨by omega, by omega, by omega⟩ (law_tl (S_go hG hm hA rg_x) hm hv hr hq)
  refine W_if (fun _ => ?_) (fun _ => ?_)
  · exact W_gd ⟨by omega, by omega, by omega⟩ (law_tl (S_call hG hm hA rg_x) hm hv hr hq)
  refine W_if (fun _ => ?_) (fun _ => ?_)
  · exact W_gd ⟨by omega, by omega, by omega⟩ (W_gd ⟨by omega, by omega, by omega⟩ (law_tl (S_watch hG hm hA rg_x rg_x) hm hv hr hq))
  refine W_if (fun _ => ?_) (fun _ => ?_)
  · exact W_gd ⟨by omega, by omega, by omega⟩ (W_gd ⟨by omega, by omega, by omega⟩ (W_gd ⟨by omega, by omega, by omega⟩ (law_tl (S_teach hG hm hA rg_x rg_x rg_x) hm hv hr hq)))
  refine W_if (fun _ => ?_) (fun _ => ?_)
  · exact W_gd ⟨by omega, by omega, by omega⟩ (law_tl (S_bells hG hm hA rg_x) hm hv hr hq)
  refine W_if (fun _ => ?_) (fun _ => ?_)
  · exact law_tl (S_undo hG hm hA) hm hv hr hq
  refine W_if (fun _ => ?_) (fun _ => ?_)
  · exact W_gd ⟨by omega, by omega, by omega⟩ (law_tl (S_seed hG hm hA rg_x) hm hv hr hq)
  refine W_if (fun _ => ?_) (fun _ => ?_)
  · exact W_gd ⟨by omega, by omega, by omega⟩ (law_tl (S_slips hG hm hA rg_x) hm hv hr hq)
  refine W_if (fun _ => ?_) (fun _ => ?_)
  · exact law_tl (S_who hG hm hA) hm hv hr hq
  refine W_if (fun _ => ?_) (fun _ => ?_)
  · refine W_gd ⟨by omega, by omega, by omega⟩ ?_
    obtain ⟨n', z', G', V', e1, ⟨b1, b2, b3, b4⟩, h9, h10, k1, v1⟩ := c_ask (n := n) (z := z) hG hG10 hm (by omega) hA hv (p := (xs (6 * (i : Int) + 1).toNat).toInt) rg_x
    have r1 : rY V' m Y := rY_lo hr k1
    obtain ⟨V2, e2, k2, r2⟩ := r_ask h10 hA r1 (p := (xs (6 * (i : Int) + 1).toNat).toInt) rg_x
    have o2 := okA_ask (p := (xs (6 * (i : Int) + 1).toNat).toInt) hA rg_x
    have v2 : vY G' V2 x (yAsk Y (xs (6 * (i : Int) + 1).toNat).toInt) := vY_up v1 hm (fun j hj => by obtain ⟨y1, y2, y3, y4⟩ := k2 j hj; exact ⟨y1, y3, y2, y4⟩) ⟨fun _ _ => rfl, fun _ _ _ => rfl, fun _ _ _ => rfl⟩
    refine W_be e1 (W_gd ⟨h9, h10⟩ (W_be e2 (W_gd o2.2 (W_gd o2.2 (W_if (fun _ => W_lt (W_so (Or.inl ⟨rfl, w - 1, by omega, i + 1, n', z', G', V2, _, by show 6 * (i : Int) + 6 = 6 * ((i + 1 : Nat) : Int); omega, by omega, rfl, h9, h10, v2, r2, o2.1, ⟨by omega, by omega⟩, ?_⟩))) (fun q => absurd rfl q))))))
    have em := Nat.succ_mul i (a_nf 8)
    show _ ≤ z0 + (i + 1) * a_nf 8
    have em2 : (i + 1) * a_nf 8 = i * a_nf 8 + a_nf 8 := em
    omega
  refine W_if (fun _ => ?_) (fun _ => ?_)
  · exact law_tl (S_image hG hG10 hm hA) hm hv hr hq
  refine W_if (fun _ => ?_) (fun _ => ?_)
  · exact W_gd ⟨by omega, by omega, by omega⟩ (law_tl (S_octet hG hA rg_x) hm hv hr hq)
  refine W_if (fun _ => ?_) (fun _ => ?_)
  · exact law_tl (S_on hG hG10 hm hA) hm hv hr hq
  refine W_if (fun _ => ?_) (fun _ => ?_)
  · exact W_gd ⟨by omega, by omega, by omega⟩ (law_tl (S_status hG hA (by omega) rg_x) hm hv hr hq)
  · exact W_lt (W_so (hq V Y hv hr (okA_s hA)))
end

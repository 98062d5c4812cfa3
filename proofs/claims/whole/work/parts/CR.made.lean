/-! made objects: rows, and what holds rows alone -/
def rowG (G : mG) (r k n cap : Nat) : mG := sR (sR (nw (zR (nw G n (.inl 7)) n) (n + 1) (.inr (0, cap))) n 0 (.ref (n + 1))) r k (.ref n)
def rowV (V : mV) (n : Nat) : mV := zA (z0 V n) (n + 1)
def fl7 (G : mG) (r k s cap : Nat) : Prop := G.2.1 r k = .ref s ∧ is7 G s ∧ qG G (s + 1) = cap
/-- below n all stands, but what r refers to -/
def gx (r n : Nat) (G G' : mG) : Prop := (∀ a, a < n → G'.1 a = G.1 a) ∧ (∀ a j, a < n → a ≠ r → G'.2.1 a j = G.2.1 a j) ∧ ∀ a j, a < n → G'.2.2 a j = G.2.2 a j
def vx (r n : Nat) (V V' : mV) : Prop := ∀ a, a < n → a ≠ r → gI V' a = gI V a ∧ gJ V' a = gJ V a ∧ gA V' a = gA V a ∧ gL V' a = gL V a
theorem gx_refl {r n : Nat} {G : mG} : gx r n G G := ⟨fun _ _ => rfl, fun _ _ _ _ => rfl, fun _ _ _ => rfl⟩
theorem gx.trans {r n n' : Nat} {G G1 G2 : mG} (h : gx r n G G1) (k : gx r n' G1 G2) (hn : n ≤ n') : gx r n G G2 := ⟨fun a q => (k.1 a (by omega)).trans (h.1 a q), fun a j q w => (k.2.1 a j (by omega) w).trans (h.2.1 a j q w), fun a j q => (k.2.2 a j (by omega)).trans (h.2.2 a j q)⟩
theorem vx_refl {r n : Nat} {V : mV} : vx r n V V := fun _ _ _ => ⟨rfl, rfl, rfl, rfl⟩
theorem vx.trans {r n n' : Nat} {V V1 V2 : mV} (h : vx r n V V1) (k : vx r n' V1 V2) (hn : n ≤ n') : vx r n V V2 := fun a q w => ⟨(k a (by omega) w).1.trans (h a q w).1, (k a (by omega) w).2.1.trans (h a q w).2.1, (k a (by omega) w).2.2.1.trans (h a q w).2.2.1, (k a (by omega) w).2.2.2.trans (h a q w).2.2.2⟩
section
variable {G G' : mG} {V V' : mV} {r k n cap z c s : Nat}
theorem rowG_1 {a : Nat} : (rowG G r k n cap).1 a = if a = n + 1 then .inr (0, cap) else if a = n then .inl 7 else G.1 a := rfl
theorem rowG_2 {a j : Nat} : (rowG G r k n cap).2.1 a j = if a = r ∧ j = k then .ref n else if a = n ∧ j = 0 then .ref (n + 1) else if a = n then .null else G.2.1 a j := rfl
theorem rowG_3 : (rowG G r k n cap).2.2 = G.2.2 := rfl
theorem gx_row (hr : r < n) : gx r n G (rowG G r k n cap) :=
  ⟨fun a h => by rw [rowG_1, if_neg (by omega), if_neg (by omega)], fun a j h w => by rw [rowG_2, if_neg (by omega), if_neg (by omega), if_neg (by omega)], fun a j h => rfl⟩
theorem vx_row : vx r n V (rowV V n) := fun a h w => ⟨by
    funext j
    show (if a = n then 0 else V.1 a j) = V.1 a j
    rw [if_neg (by omega)], by
    funext j
    show (if a = n then 0 else V.2.1 a j) = V.2.1 a j
    rw [if_neg (by omega)], by
    funext j
    show (if a = n + 1 then 0 else V.2.2.1 a j) = V.2.2.1 a j
    rw [if_neg (by omega)], rfl⟩
theorem rowV_I {a j : Nat} : gI (rowV V n) a j = if a = n then 0 else gI V a j := rfl
theorem rowV_J {a j : Nat} : gJ (rowV V n) a j = if a = n then 0 else gJ V a j := rfl
theorem qG_at {a t : Nat} (h : G.1 a = .inr (t, cap)) : qG G a = cap := by unfold qG; rw [h]
theorem fl7_new (hr : r < n) (hc : cap ≤ 2000) : fl7 (rowG G r k n cap) r k n cap := by
  have h1 : (rowG G r k n cap).1 (n + 1) = .inr (0, cap) := by rw [rowG_1, if_pos rfl]
  have hq := qG_at h1
  refine ⟨by rw [rowG_2, if_pos ⟨rfl, rfl⟩], ⟨by rw [rowG_1, if_neg (by omega), if_pos rfl], by rw [rowG_2, if_neg (by omega), if_pos ⟨rfl, rfl⟩], by rw [hq]; exact h1, by rw [hq]; exact hc⟩, hq⟩
theorem is7_up (h : is7 G s) (k : gx r n G G') (hs : s + 1 < n) (hr : s ≠ r) : is7 G' s ∧ qG G' (s + 1) = qG G (s + 1) := by
  have e : G'.1 (s + 1) = G.1 (s + 1) := k.1 _ hs
  have q : qG G' (s + 1) = qG G (s + 1) := by unfold qG; rw [e]
  exact ⟨⟨by rw [k.1 _ (by omega)]; exact h.1, by rw [k.2.1 _ _ (by omega) hr]; exact h.2.1, by rw [q, e]; exact h.2.2.1, by rw [q]; exact h.2.2.2⟩, q⟩
theorem fl7_up {j : Nat} (h : fl7 G r j s cap) (k : gx r n G G') (hj : G'.2.1 r j = G.2.1 r j) (hs : s + 1 < n) (hr : s ≠ r) : fl7 G' r j s cap := by
  obtain ⟨a, b, d⟩ := h
  obtain ⟨x, y⟩ := is7_up b k hs hr
  exact ⟨hj.trans a, x, y.trans d⟩
theorem fl7_old {j cap' : Nat} (h : fl7 G r j s cap') (hn : s + 1 < n) (hr : s ≠ r) (hrn : r < n) (hj : j ≠ k) : fl7 (rowG G r k n cap) r j s cap' :=
  fl7_up h (gx_row hrn) (by rw [rowG_2, if_neg (by omega), if_neg (by omega), if_neg (by omega)]) hn hr
/-- one more row -/
theorem addRow {β : Type} {x : Int} (hx : x = (cap : Int)) (hcap : cap ≤ 2000) (hr : r < n) (hc : G.1 r = .inl c) (K : mW → mG → Option β) :
    (lt (zR (nw G n (.inl 7)) n) fun G2 => lt (z0 V n) fun V3 => gd (G2.1 r = .inl c ∧ G2.1 n = .inl 7) <| bd (F_X7_init n x ((n + 1), (z + a_nf 7), G2, V3)) fun W6 v7 => gd (W6.2.2.1.1 r = .inl c ∧ is7 W6.2.2.1 n) <| lt (sR W6.2.2.1 r k (.ref n)) fun G11 => K W6 G11) = K (n + 2, z + a_nf 7 + cap, sR (nw (zR (nw G n (.inl 7)) n) (n + 1) (.inr (0, cap))) n 0 (.ref (n + 1)), rowV V n) (rowG G r k n cap) := by
  have em : max x 0 = (cap : Int) := by rw [hx]; exact Int.max_eq_left (by omega)
  have et : ((cap : Nat) : Int).toNat = cap := Int.toNat_natCast _
  refine E_lt (E_lt (E_gd ⟨?_, ?_⟩ (E_bd (V1 := (n + 2, z + a_nf 7 + cap, sR (nw (zR (nw G n (.inl 7)) n) (n + 1) (.inr (0, cap))) n 0 (.ref (n + 1)), rowV V n)) (v1 := 0) ?_ (E_gd ⟨?_, ?_⟩ (E_lt rfl)))))
  · show (if r = n then _ else G.1 r) = _
    rw [if_neg (by omega)]; exact hc
  · show (if n = n then _ else G.1 n) = _
    rw [if_pos rfl]
  · unfold F_X7_init
    rw [em, et]
    refine E_gd ?_ (E_gd ⟨by omega, by omega⟩ (E_gd ⟨by omega, by omega⟩ (E_lt (E_lt (E_gd ⟨?_, ?_⟩ (E_lt rfl))))))
    · show (if n = n then _ else G.1 n) = _
      rw [if_pos rfl]
    · show (if n = n + 1 then _ else if n = n then _ else G.1 n) = _
      rw [if_neg (by omega), if_pos rfl]
    · show (if n + 1 = n + 1 then _ else _) = _
      rw [if_pos rfl]
  · show (if r = n + 1 then _ else if r = n then _ else G.1 r) = _
    rw [if_neg (by omega), if_neg (by omega)]; exact hc
  · have h1 : (sR (nw (zR (nw G n (.inl 7)) n) (n + 1) (.inr (0, cap))) n 0 (.ref (n + 1))).1 (n + 1) = .inr (0, cap) := by
      show (if n + 1 = n + 1 then _ else _) = _
      rw [if_pos rfl]
    have hq := qG_at h1
    refine ⟨?_, ?_, by rw [hq]; exact h1, by rw [hq]; exact hcap⟩
    · show (if n = n + 1 then _ else if n = n then _ else G.1 n) = _
      rw [if_neg (by omega), if_pos rfl]
    · show (if n = n ∧ 0 = 0 then _ else _) = _
      rw [if_pos ⟨rfl, rfl⟩]
theorem rowG_c (hr : r < n) (hc : G.1 r = .inl c) : (rowG G r k n cap).1 r = .inl c := by rw [rowG_1, if_neg (by omega), if_neg (by omega)]; exact hc
theorem vx_fr {S : Nat → Prop} (h : fr S V V') (hS : ∀ a, S a → n ≤ a) : vx r n V V' := fun a q _ => by
  obtain ⟨x, y⟩ := h.2.2 a (fun w => by have := hS a w; omega)
  exact ⟨x, by rw [h.1], y, by rw [h.2.1]⟩
theorem made3 (hc : G.1 r = .inl 3) : ∃ G' V', F_X3_init r (r + 1, z, G, V) = some ((r + 5, z + a_nf 7 + 1600 + a_nf 7 + 64, G', V'), 0) ∧ is3 G' r ∧ gx r (r + 1) G G' ∧ vx r (r + 1) V V' ∧ gI V' r = gI V r ∧ gJ V' r = gJ V r ∧ gI V' (r + 1) 1 = 0 ∧ gI V' (r + 3) 1 = 64 := by
  obtain ⟨G1, hG1⟩ : ∃ G1, G1 = rowG G r 0 (r + 1) 1600 := ⟨_, rfl⟩
  obtain ⟨G2, hG2⟩ : ∃ G2, G2 = rowG G1 r 1 (r + 3) 64 := ⟨_, rfl⟩
  have c1 : G1.1 r = .inl 3 := by rw [hG1]; exact rowG_c (by omega) hc
  have f0 : fl7 G1 r 0 (r + 1) 1600 := by rw [hG1]; exact fl7_new (by omega) (by decide)
  have c2 : G2.1 r = .inl 3 := by rw [hG2]; exact rowG_c (by omega) c1
  have f0' : fl7 G2 r 0 (r + 1) 1600 := by rw [hG2]; exact fl7_old f0 (by omega) (by omega) (by omega) (by decide)
  have f1 : fl7 G2 r 1 (r + 3) 64 := by rw [hG2]; exact fl7_new (by omega) (by decide)
  have i3 : is3 G2 r := ⟨c2, f0'.1, f0'.2.1, f0'.2.2, f1.1, f1.2.1, f1.2.2⟩
  have X : gx r (r + 1) G G2 := by
    rw [hG2, hG1]
    exact (gx_row (by omega)).trans (gx_row (by omega)) (by omega)
  have Y : vx r (r + 1) V (rowV (rowV V (r + 1)) (r + 3)) := vx_row.trans vx_row (by omega)
  obtain ⟨V4, e4, k4, w4⟩ := rw_fill (V := rowV (rowV V (r + 1)) (r + 3)) (n := 64) (v := 0) f1.2.1 f1.2.2 (by decide)
  refine ⟨G2, V4, ?_, i3, X, Y.trans (vx_fr (r := r) (n := r + 1) k4 (fun a q => by omega)) (Nat.le_refl _), ?_, ?_, ?_, w4.1⟩
  · unfold F_X3_init
    refine E_gd hc ?_
    refine (addRow (cap := 1600) rfl (by decide) (by omega) hc _).trans ?_
    rw [← hG1]
    refine (addRow (cap := 64) rfl (by decide) (by omega) c1 _).trans ?_
    rw [← hG2]
    exact E_gd ⟨f1.1, f1.2.1⟩ (E_bd e4 rfl)
  · rw [(k4.2.2 r (by omega)).1]; funext j; rw [rowV_I, if_neg (by omega), rowV_I, if_neg (by omega)]
  · rw [k4.1]; funext j; rw [rowV_J, if_neg (by omega), rowV_J, if_neg (by omega)]
  · rw [k4.I (by omega), rowV_I, if_neg (by omega), rowV_I, if_pos rfl]
end

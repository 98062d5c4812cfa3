/-! THE PURE FLOOR: what the functions say, under invariants -/
theorem gd_p {β : Type} {P : Prop} {e : Option β} (h : P) : gd P e = e := by unfold gd; exact if_pos h
def Wp {σ α : Type} (e : Option (σ × α)) (Q : σ → α → Prop) : Prop := ∃ V v, e = some (V, v) ∧ Q V v
section
variable {σ τ α β : Type} {P c : Prop} {r : β}
theorem E_gd {e : Option β} {r : Option β} (h : P) (k : e = r) : gd P e = r := by rw [gd_p h]; exact k
theorem E_lt {x : α} {f : α → Option β} {r : Option β} (k : f x = r) : lt x f = r := k
theorem E_bd {e : Option (σ × α)} {f : σ → α → Option β} {V1 : σ} {v1 : α} {r : Option β} (h : e = some (V1, v1)) (k : f V1 v1 = r) : bd e f = r := by rw [h]; exact k
theorem E_if [Decidable c] {A B r : Option β} (a : c → A = r) (b : ¬ c → B = r) : (if c then A else B) = r := by
  by_cases h : c
  · rw [if_pos h]; exact a h
  · rw [if_neg h]; exact b h
theorem E_so {V V' : σ} {v v' : α} (h : V = V') (h2 : v = v') : (some (V, v) : Option (σ × α)) = some (V', v') := by rw [h, h2]
theorem W_gd {e : Option (σ × α)} {Q : σ → α → Prop} (h : P) (k : Wp e Q) : Wp (gd P e) Q := by rw [gd_p h]; exact k
theorem W_lt {x : τ} {f : τ → Option (σ × α)} {Q : σ → α → Prop} (k : Wp (f x) Q) : Wp (lt x f) Q := k
theorem W_be {σ' α' : Type} {e : Option (σ' × α')} {f : σ' → α' → Option (σ × α)} {Q : σ → α → Prop} {V1 : σ'} {v1 : α'} (h : e = some (V1, v1)) (k : Wp (f V1 v1) Q) : Wp (bd e f) Q := by rw [h]; exact k
theorem W_bd {σ' α' : Type} {e : Option (σ' × α')} {f : σ' → α' → Option (σ × α)} {Q : σ → α → Prop} {R : σ' → α' → Prop} (h : Wp e R) (k : ∀ V v, R V v → Wp (f V v) Q) : Wp (bd e f) Q := by
  obtain ⟨V, v, e1, r1⟩ := h
  exact W_be e1 (k V v r1)
theorem W_if [Decidable c] {A B : Option (σ × α)} {Q : σ → α → Prop} (a : c → Wp A Q) (b : ¬ c → Wp B Q) : Wp (if c then A else B) Q := by
  by_cases h : c
  · rw [if_pos h]; exact a h
  · rw [if_neg h]; exact b h
theorem W_so {Q : σ → α → Prop} {V : σ} {v : α} (h : Q V v) : Wp (some (V, v)) Q := ⟨V, v, rfl, h⟩
theorem W_mono {e : Option (σ × α)} {Q R : σ → α → Prop} (h : Wp e Q) (k : ∀ V v, Q V v → R V v) : Wp e R := by
  obtain ⟨V, v, e1, r1⟩ := h
  exact ⟨V, v, e1, k V v r1⟩
theorem W_of {e : Option (σ × α)} {Q : σ → α → Prop} {V : σ} {v : α} (h : e = some (V, v)) (q : Q V v) : Wp e Q := ⟨V, v, h, q⟩
/-- a loop: I holds at its head, with so many rounds to go at most -/
theorem W_lp {B : σ → τ → Option (τ × Nat × σ)} {Q : τ → Nat × σ → Prop} (I : Nat → σ → τ → Prop) (hB : ∀ w s V, I w s V → Wp (B s V) (fun V' q => (q.1 = 0 ∧ ∃ w', w' < w ∧ I w' q.2 V') ∨ (q.1 ≠ 0 ∧ Q V' q))) : ∀ (fu w : Nat) (s : σ) (V : τ), I w s V → w < fu → Wp (lp B fu s V) Q := by
  intro fu
  induction fu with
  | zero => intro w s V _ h; omega
  | succ fu ih =>
    intro w s V hI hw
    obtain ⟨V', q, e1, r1⟩ := hB w s V hI
    unfold lp
    rw [e1]
    simp only
    rcases r1 with ⟨h0, w', hw', hI'⟩ | ⟨h0, hq⟩
    · rw [if_pos h0]; exact ih w' q.2 V' hI' (by omega)
    · rw [if_neg h0]; exact ⟨V', q, rfl, hq⟩
/-- a counted loop: from a up to b, the state at k is g k -/
theorem E_for {B : σ → τ → Option (τ × Nat × σ)} {t : Nat} (hn : t ≠ 0) (S : Nat → σ) (g : Nat → τ) (N : Nat) (hB : ∀ k, k < N → B (S k) (g k) = some (g (k + 1), 0, S (k + 1))) (hE : B (S N) (g N) = some (g N, t, S N)) (fu : Nat) (hf : N < fu) : lp B fu (S 0) (g 0) = some (g N, t, S N) := by
  have key : ∀ (j fu : Nat), j ≤ N → N - j < fu → lp B fu (S j) (g j) = some (g N, t, S N) := by
    intro j
    induction h : N - j generalizing j with
    | zero =>
      intro fu hj hf
      have : j = N := by omega
      subst this
      cases fu with
      | zero => omega
      | succ fu => unfold lp; rw [hE]; simp only; rw [if_neg hn]
    | succ w ih =>
      intro fu hj hf
      cases fu with
      | zero => omega
      | succ fu => unfold lp; rw [hB j (by omega)]; simp only; rw [if_pos trivial]; exact ih (j + 1) (by omega) fu (by omega) (by omega)
  exact key 0 fu (by omega) (by omega)
end
def rz (G : mG) (V : mV) (r : Nat) : Prop := 0 ≤ gI V r 1 ∧ gI V r 1 ≤ (qG G (r + 1) : Int)
section
variable {G : mG} {V : mV} {r p : Nat} {k v : Int}
theorem p7_size : F_X7_size G r V = some (V, gI V r 1) := rfl
theorem p7_get (hr : is7 G r) (hz : rz G V r) (hk : rg k) : F_X7_get G r k V = some (V, rget V r k) := by
  have hc := s7_c hr
  obtain ⟨h1, h2⟩ := hz
  unfold F_X7_get rget
  refine E_gd hk ?_
  refine E_if (fun a => E_so rfl (by rw [if_neg (by omega)])) (fun a => ?_)
  refine E_gd (by omega) ?_
  refine E_if (fun b => E_so rfl (by rw [if_neg (by omega)])) (fun b => ?_)
  refine E_gd (by omega) ?_
  refine E_if (fun c => by omega) (fun c => ?_)
  refine E_gd (by omega) ?_
  exact E_so rfl (by rw [if_pos (by omega)])
theorem p7_put (hr : is7 G r) (hz : rz G V r) (hk : rg k) : F_X7_put G r k v V = some (rput V r k v, 0) := by
  have hc := s7_c hr
  obtain ⟨h1, h2⟩ := hz
  unfold F_X7_put rput
  refine E_gd hk ?_
  refine E_if (fun a => E_so (by rw [if_neg (by omega)]) rfl) (fun a => ?_)
  refine E_gd (by omega) ?_
  refine E_if (fun b => E_so (by rw [if_neg (by omega)]) rfl) (fun b => ?_)
  refine E_gd (by omega) ?_
  refine E_if (fun c => by omega) (fun c => ?_)
  refine E_gd (by omega) ?_
  exact E_so (by rw [if_pos (by omega)]) rfl
theorem p7_add (hr : is7 G r) (hz : rz G V r) : F_X7_add G r v V = some (radd V r (qG G (r + 1)) v, 0) := by
  have hc := s7_c hr
  obtain ⟨h1, h2⟩ := hz
  unfold F_X7_add radd
  refine E_gd (by omega) ?_
  refine E_if (fun a => by omega) (fun a => ?_)
  refine E_gd (by omega) ?_
  refine E_if (fun b => E_so (by rw [if_neg (by omega)]) rfl) (fun b => ?_)
  refine E_gd (by omega) ?_
  exact E_so (by rw [if_pos (by omega)]; rfl) rfl
theorem p7_cut (hr : is7 G r) (hz : rz G V r) (hk : rg k) : F_X7_cut G r k V = some (rcut V r k, 0) := by
  have hc := s7_c hr
  obtain ⟨h1, h2⟩ := hz
  unfold F_X7_cut rcut
  refine E_gd hk ?_
  refine E_if (fun a => E_so (by rw [if_neg (by omega)]) rfl) (fun a => ?_)
  refine E_gd (by omega) ?_
  refine E_if (fun b => E_so (by rw [if_neg (by omega)]) rfl) (fun b => ?_)
  exact E_so (by rw [if_pos (by omega)]) rfl
end
/-- the first one from k on, of m; how many -/
def fi (f : Int → Int) (v : Int) : Int → Nat → Int
  | _, 0 => -1
  | k, m + 1 => if f k = v then k else fi f v (k + 1) m
def ci (f : Int → Int) (v : Int) : Int → Nat → Int
  | _, 0 => 0
  | k, m + 1 => (if f k = v then 1 else 0) + ci f v (k + 1) m
theorem fi_rg (f : Int → Int) (v : Int) (m : Nat) : ∀ k, (fi f v k m = -1 ∧ ∀ j, k ≤ j → j < k + m → f j ≠ v) ∨ (k ≤ fi f v k m ∧ fi f v k m < k + m ∧ f (fi f v k m) = v) := by
  induction m with
  | zero => intro k; exact Or.inl ⟨rfl, fun j h1 h2 => by omega⟩
  | succ m ih =>
    intro k
    unfold fi
    by_cases h : f k = v
    · rw [if_pos h]; exact Or.inr ⟨by omega, by omega, h⟩
    · rw [if_neg h]
      rcases ih (k + 1) with ⟨a, b⟩ | ⟨a, b, c⟩
      · refine Or.inl ⟨a, fun j h1 h2 => ?_⟩
        by_cases e : j = k
        · rw [e]; exact h
        · exact b j (by omega) (by omega)
      · exact Or.inr ⟨by omega, by omega, c⟩
theorem ci_rg (f : Int → Int) (v : Int) (m : Nat) : ∀ k, 0 ≤ ci f v k m ∧ ci f v k m ≤ m := by
  induction m with
  | zero => intro k; exact ⟨Int.le_refl _, Int.le_refl _⟩
  | succ m ih => intro k; have := ih (k + 1); unfold ci; split <;> omega
theorem fi_cg {f g : Int → Int} {v : Int} {m : Nat} : ∀ {k : Int}, (∀ j, k ≤ j → j < k + m → f j = g j) → fi f v k m = fi g v k m := by
  induction m with
  | zero => intro k _; rfl
  | succ m ih => intro k h; unfold fi; rw [h k (by omega) (by omega), ih (fun j a b => h j (by omega) (by omega))]
theorem ci_cg {f g : Int → Int} {v : Int} {m : Nat} : ∀ {k : Int}, (∀ j, k ≤ j → j < k + m → f j = g j) → ci f v k m = ci g v k m := by
  induction m with
  | zero => intro k _; rfl
  | succ m ih => intro k h; unfold ci; rw [h k (by omega) (by omega), ih (fun j a b => h j (by omega) (by omega))]
/-- the cells of a row -/
def rc (V : mV) (r : Nat) : Int → Int := fun k => gA V (r + 1) k.toNat
theorem rget_in {V : mV} {r : Nat} {k : Int} (h0 : 0 ≤ k) (h1 : k < gI V r 1) : rget V r k = rc V r k := by unfold rget rc; rw [if_pos ⟨h0, h1⟩]
theorem rget_out {V : mV} {r : Nat} {k : Int} (h : k < 0 ∨ gI V r 1 ≤ k) : rget V r k = -1 := by unfold rget; rw [if_neg (by omega)]
section
variable {G : mG} {V : mV} {r p : Nat} {k v : Int}
theorem l7_find (hr : is7 G r) (hz : rz G V r) (hw : ∀ j : Int, 0 ≤ j → j < gI V r 1 → rg (rc V r j)) (hv : rg v) : ∀ (m : Nat) (k : Int) (fu : Nat), 0 ≤ k → k + m = gI V r 1 → m < fu → ∃ q : Nat × Int, lp (fun (s : Int) V => B_X7_find_2 G r v s V) fu k V = some (V, q) ∧ ((q.1 = 1 ∧ q.2 = fi (rc V r) v k m) ∨ (q.1 = 2 ∧ fi (rc V r) v k m = -1)) := by
  have hc := s7_c hr
  have hz' := hz
  obtain ⟨z1, z2⟩ := hz'
  intro m
  induction m with
  | zero =>
    intro k fu h0 h1 hf
    obtain ⟨fu, rfl⟩ : ∃ f, fu = f + 1 := ⟨fu - 1, by omega⟩
    refine ⟨(2, k), ?_, Or.inr ⟨rfl, rfl⟩⟩
    unfold lp
    rw [show B_X7_find_2 G r v k V = some (V, 2, k) by
      unfold B_X7_find_2
      refine E_gd (by omega) (E_gd (by omega) ?_)
      exact E_if (fun _ => rfl) (fun _ => by omega)]
    rfl
  | succ m ih =>
    intro k fu h0 h1 hf
    obtain ⟨fu, rfl⟩ : ∃ f, fu = f + 1 := ⟨fu - 1, by omega⟩
    have hg : F_X7_get G r k V = some (V, rc V r k) := by rw [p7_get hr hz (by omega), rget_in h0 (by omega)]
    have hg2 : rg (rc V r k) := hw k h0 (by omega)
    unfold fi
    by_cases e : rc V r k = v
    · refine ⟨(1, k), ?_, Or.inl ⟨rfl, by rw [if_pos e]⟩⟩
      unfold lp
      rw [show B_X7_find_2 G r v k V = some (V, 1, k) by
        unfold B_X7_find_2
        refine E_gd (by omega) (E_gd (by omega) ?_)
        refine E_if (fun _ => by omega) (fun _ => ?_)
        refine E_bd hg (E_gd hg2 (E_gd hv ?_))
        exact E_if (fun _ => rfl) (fun q => absurd e q)]
      rfl
    · rw [if_neg e]
      obtain ⟨q, q1, q2⟩ := ih (k + 1) fu (by omega) (by omega) (by omega)
      refine ⟨q, ?_, q2⟩
      unfold lp
      rw [show B_X7_find_2 G r v k V = some (V, 0, k + 1) by
        unfold B_X7_find_2
        refine E_gd (by omega) (E_gd (by omega) ?_)
        refine E_if (fun _ => by omega) (fun _ => ?_)
        refine E_bd hg (E_gd hg2 (E_gd hv ?_))
        exact E_if (fun q => absurd q e) (fun q => rfl)]
      exact q1
theorem p7_find (hr : is7 G r) (hz : rz G V r) (hw : ∀ j : Int, 0 ≤ j → j < gI V r 1 → rg (rc V r j)) (hv : rg v) : F_X7_find G r v V = some (V, fi (rc V r) v 0 (gI V r 1).toNat) := by
  have hc := s7_c hr
  have hz' := hz
  obtain ⟨z1, z2⟩ := hz'
  obtain ⟨q, q1, q2⟩ := l7_find hr hz hw hv (gI V r 1).toNat 0 FU (by omega) (by omega) (by unfold FU; omega)
  unfold F_X7_find
  refine E_bd q1 ?_
  rcases q2 with ⟨a, b⟩ | ⟨a, b⟩
  · rw [if_pos a, b]
  · rw [if_neg (by omega), b]
theorem l7_count (hr : is7 G r) (hz : rz G V r) (hw : ∀ j : Int, 0 ≤ j → j < gI V r 1 → rg (rc V r j)) (hv : rg v) : ∀ (m : Nat) (k c : Int) (fu : Nat), 0 ≤ k → k + m = gI V r 1 → 0 ≤ c → c ≤ k → m < fu → ∃ q : Nat × Int × Int, lp (fun (s : Int × Int) V => B_X7_count_4 G r v s.1 s.2 V) fu (c, k) V = some (V, q) ∧ q.2.1 = c + ci (rc V r) v k m := by
  have hc := s7_c hr
  have hz' := hz
  obtain ⟨z1, z2⟩ := hz'
  intro m
  induction m with
  | zero =>
    intro k c fu h0 h1 h2 h3 hf
    obtain ⟨fu, rfl⟩ : ∃ f, fu = f + 1 := ⟨fu - 1, by omega⟩
    refine ⟨(1, c, k), ?_, by show c = c + 0; omega⟩
    unfold lp
    rw [show B_X7_count_4 G r v c k V = some (V, 1, c, k) by
      unfold B_X7_count_4
      refine E_gd (by omega) (E_gd (by omega) ?_)
      exact E_if (fun _ => rfl) (fun _ => by omega)]
    rfl
  | succ m ih =>
    intro k c fu h0 h1 h2 h3 hf
    obtain ⟨fu, rfl⟩ : ∃ f, fu = f + 1 := ⟨fu - 1, by omega⟩
    have hg : F_X7_get G r k V = some (V, rc V r k) := by rw [p7_get hr hz (by omega), rget_in h0 (by omega)]
    have hg2 : rg (rc V r k) := hw k h0 (by omega)
    unfold ci
    by_cases e : rc V r k = v
    · rw [if_pos e]
      obtain ⟨q, q1, q2⟩ := ih (k + 1) (c + 1) fu (by omega) (by omega) (by omega) (by omega) (by omega)
      refine ⟨q, ?_, by omega⟩
      unfold lp
      rw [show B_X7_count_4 G r v c k V = some (V, 0, c + 1, k + 1) by
        unfold B_X7_count_4
        refine E_gd (by omega) (E_gd (by omega) ?_)
        refine E_if (fun _ => by omega) (fun _ => ?_)
        refine E_bd hg (E_gd hg2 (E_gd hv ?_))
        exact E_if (fun _ => rfl) (fun q => absurd e q)]
      exact q1
    · rw [if_neg e]
      obtain ⟨q, q1, q2⟩ := ih (k + 1) c fu (by omega) (by omega) (by omega) (by omega) (by omega)
      refine ⟨q, ?_, by omega⟩
      unfold lp
      rw [show B_X7_count_4 G r v c k V = some (V, 0, c, k + 1) by
        unfold B_X7_count_4
        refine E_gd (by omega) (E_gd (by omega) ?_)
        refine E_if (fun _ => by omega) (fun _ => ?_)
        refine E_bd hg (E_gd hg2 (E_gd hv ?_))
        exact E_if (fun q => absurd q e) (fun q => rfl)]
      exact q1
theorem p7_count (hr : is7 G r) (hz : rz G V r) (hw : ∀ j : Int, 0 ≤ j → j < gI V r 1 → rg (rc V r j)) (hv : rg v) : F_X7_count G r v V = some (V, ci (rc V r) v 0 (gI V r 1).toNat) := by
  have hc := s7_c hr
  have hz' := hz
  obtain ⟨z1, z2⟩ := hz'
  obtain ⟨q, q1, q2⟩ := l7_count hr hz hw hv (gI V r 1).toNat 0 0 FU (by omega) (by omega) (by omega) (by omega) (by unfold FU; omega)
  unfold F_X7_count
  refine E_bd q1 (E_so rfl ?_)
  omega
/-- the cells from k up to n become f -/
def rrun (V : mV) (r : Nat) (f : Nat → Int) (a b : Nat) : mV := sF V (r + 1) (fun j => if a ≤ j ∧ j < b then f j else gA V (r + 1) j)
theorem p7_fill (hr : is7 G r) (hk : rg k) : F_X7_fill G r k v V = some (rfill V r (qG G (r + 1)) k v, 0) := by
  have hc := s7_c hr
  unfold F_X7_fill
  refine E_gd hk (E_gd (by omega) (E_gd (by omega) (E_lt ?_)))
  have key := E_for (B := fun (s : Int) V => B_X7_fill_19 G r k v s V) (t := 1) (by decide) (fun j => (j : Int)) (fun j => sF (sI V r 1 (min (max k 0) (qG G (r + 1) : Int))) (r + 1) (fun i => if i < j then v else gA V (r + 1) i)) (min (max k 0) (qG G (r + 1) : Int)).toNat ?_ ?_ FU (by unfold FU; omega)
  · have e0 : sF (sI V r 1 (min (max k 0) (qG G (r + 1) : Int))) (r + 1) (fun i => if i < 0 then v else gA V (r + 1) i) = sI V r 1 (min (max k 0) (qG G (r + 1) : Int)) := sF_id (fun b => by rw [if_neg (by omega)]; rfl)
    rw [e0] at key
    refine E_bd key (E_so ?_ rfl)
    unfold rfill rset
    apply sF_cg
    intro b
    by_cases hb : b < (min (max k 0) (qG G (r + 1) : Int)).toNat
    · rw [if_pos hb, if_pos (by omega)]
    · rw [if_neg hb, if_neg (by omega)]; rfl
  · intro j hj
    have hsz : gI (sF (sI V r 1 (min (max k 0) (qG G (r + 1) : Int))) (r + 1) (fun i => if i < j then v else gA V (r + 1) i)) r 1 = min (max k 0) (qG G (r + 1) : Int) := by rw [gI_sF, gI_sI, if_pos ⟨rfl, rfl⟩]
    unfold B_X7_fill_19
    refine E_gd (by omega) (E_gd (by rw [hsz]; omega) ?_)
    refine E_if (fun q => by rw [hsz] at q; omega) (fun _ => ?_)
    refine E_bd (p7_put hr ⟨by rw [hsz]; omega, by rw [hsz]; omega⟩ (by omega)) (E_lt ?_)
    refine E_so ?_ ?_
    · unfold rput
      rw [if_pos ⟨by omega, by rw [hsz]; omega⟩, sA_sF, sF_sF]
      apply sF_cg
      intro b
      rw [gA_sF, if_pos rfl]
      by_cases hb : b = j
      · subst hb; rw [if_pos (by omega), if_pos (by omega)]
      · rw [if_neg (by omega)]
        by_cases hb2 : b < j
        · rw [if_pos hb2, if_pos (by omega)]
        · rw [if_neg hb2, if_neg (by omega)]
    · show ((0 : Nat), (j : Int) + 1) = (0, ((j + 1 : Nat) : Int)); congr 1
  · have hsz : gI (sF (sI V r 1 (min (max k 0) (qG G (r + 1) : Int))) (r + 1) (fun i => if i < (min (max k 0) (qG G (r + 1) : Int)).toNat then v else gA V (r + 1) i)) r 1 = min (max k 0) (qG G (r + 1) : Int) := by rw [gI_sF, gI_sI, if_pos ⟨rfl, rfl⟩]
    unfold B_X7_fill_19
    refine E_gd (by omega) (E_gd (by rw [hsz]; omega) ?_)
    exact E_if (fun q => rfl) (fun q => by rw [hsz] at q; omega)
theorem p7_copy (hr : is7 G r) (hq : is7 G p) (hne : p ≠ r) (hne2 : p + 1 ≠ r + 1) (hz : rz G V p) : F_X7_copy G r p V = some (rcopy V r (qG G (r + 1)) p, 0) := by
  have hc := s7_c hr
  have hc2 := s7_c hq
  have hz' := hz
  obtain ⟨z1, z2⟩ := hz'
  unfold F_X7_copy
  refine E_gd (by omega) (E_gd (by omega) (E_lt ?_))
  have key := E_for (B := fun (s : Int) V => B_X7_copy_18 G r p s V) (t := 1) (by decide) (fun j => (j : Int)) (fun j => sF (sI V r 1 (min (gI V p 1) (qG G (r + 1) : Int))) (r + 1) (fun i => if i < j then gA V (p + 1) i else gA V (r + 1) i)) (min (gI V p 1) (qG G (r + 1) : Int)).toNat ?_ ?_ FU (by unfold FU; omega)
  · have e0 : sF (sI V r 1 (min (gI V p 1) (qG G (r + 1) : Int))) (r + 1) (fun i => if i < 0 then gA V (p + 1) i else gA V (r + 1) i) = sI V r 1 (min (gI V p 1) (qG G (r + 1) : Int)) := sF_id (fun b => by rw [if_neg (by omega)]; rfl)
    rw [e0] at key
    refine E_bd key (E_so ?_ rfl)
    unfold rcopy rset
    apply sF_cg
    intro b
    by_cases hb : b < (min (gI V p 1) (qG G (r + 1) : Int)).toNat
    · rw [if_pos hb, if_pos (by omega)]
    · rw [if_neg hb, if_neg (by omega)]; rfl
  · intro j hj
    have hsz : gI (sF (sI V r 1 (min (gI V p 1) (qG G (r + 1) : Int))) (r + 1) (fun i => if i < j then gA V (p + 1) i else gA V (r + 1) i)) r 1 = min (gI V p 1) (qG G (r + 1) : Int) := by rw [gI_sF, gI_sI, if_pos ⟨rfl, rfl⟩]
    have hsp : gI (sF (sI V r 1 (min (gI V p 1) (qG G (r + 1) : Int))) (r + 1) (fun i => if i < j then gA V (p + 1) i else gA V (r + 1) i)) p 1 = gI V p 1 := by rw [gI_sF, gI_sI, if_neg (by omega)]
    unfold B_X7_copy_18
    refine E_gd (by omega) (E_gd (by rw [hsz]; omega) ?_)
    refine E_if (fun q => by rw [hsz] at q; omega) (fun _ => ?_)
    refine E_bd (p7_get hq ⟨by rw [hsp]; omega, by rw [hsp]; omega⟩ (by omega)) ?_
    refine E_bd (p7_put hr ⟨by rw [hsz]; omega, by rw [hsz]; omega⟩ (by omega)) (E_lt ?_)
    refine E_so ?_ ?_
    · unfold rput rget
      rw [if_pos ⟨by omega, by rw [hsz]; omega⟩, if_pos ⟨by omega, by rw [hsp]; omega⟩, gA_sF, if_neg hne2, gA_sI, sA_sF, sF_sF]
      apply sF_cg
      intro b
      rw [gA_sF, if_pos rfl]
      by_cases hb : b = j
      · subst hb; rw [if_pos (by omega), if_pos (by omega)]; rfl
      · rw [if_neg (by omega)]
        by_cases hb2 : b < j
        · rw [if_pos hb2, if_pos (by omega)]
        · rw [if_neg hb2, if_neg (by omega)]
    · show ((0 : Nat), (j : Int) + 1) = (0, ((j + 1 : Nat) : Int)); congr 1
  · have hsz : gI (sF (sI V r 1 (min (gI V p 1) (qG G (r + 1) : Int))) (r + 1) (fun i => if i < (min (gI V p 1) (qG G (r + 1) : Int)).toNat then gA V (p + 1) i else gA V (r + 1) i)) r 1 = min (gI V p 1) (qG G (r + 1) : Int) := by rw [gI_sF, gI_sI, if_pos ⟨rfl, rfl⟩]
    unfold B_X7_copy_18
    refine E_gd (by omega) (E_gd (by rw [hsz]; omega) ?_)
    exact E_if (fun q => rfl) (fun q => by rw [hsz] at q; omega)
end

/-! frames; rows as pictures; a formula of a city told -/
/-- the class's changes: cells of S alone, no long ones -/
def fr (S : Nat → Prop) (V V' : mV) : Prop := gJ V' = gJ V ∧ gL V' = gL V ∧ ∀ i, ¬ S i → gI V' i = gI V i ∧ gA V' i = gA V i
theorem fr_refl {S : Nat → Prop} {V : mV} : fr S V V := ⟨rfl, rfl, fun _ _ => ⟨rfl, rfl⟩⟩
theorem fr.trans {S : Nat → Prop} {V V1 V2 : mV} (h : fr S V V1) (k : fr S V1 V2) : fr S V V2 :=
  ⟨k.1.trans h.1, k.2.1.trans h.2.1, fun i hi => ⟨(k.2.2 i hi).1.trans (h.2.2 i hi).1, (k.2.2 i hi).2.trans (h.2.2 i hi).2⟩⟩
theorem fr.mono {S S' : Nat → Prop} {V V1 : mV} (h : fr S V V1) (k : ∀ i, S i → S' i) : fr S' V V1 := ⟨h.1, h.2.1, fun i hi => h.2.2 i (fun q => hi (k i q))⟩
theorem fr.I {S : Nat → Prop} {V V1 : mV} (h : fr S V V1) {i : Nat} (hi : ¬ S i) (k : Nat) : gI V1 i k = gI V i k := by rw [(h.2.2 i hi).1]
theorem fr.A {S : Nat → Prop} {V V1 : mV} (h : fr S V V1) {i : Nat} (hi : ¬ S i) (k : Nat) : gA V1 i k = gA V i k := by rw [(h.2.2 i hi).2]
theorem fr_sI {S : Nat → Prop} {V : mV} {i k : Nat} {x : Int} (h : S i) : fr S V (sI V i k x) :=
  ⟨rfl, rfl, fun a ha => ⟨by funext b; rw [gI_sI, if_neg]; rintro ⟨p, -⟩; subst p; exact ha h, rfl⟩⟩
theorem fr_sA {S : Nat → Prop} {V : mV} {i k : Nat} {x : Int} (h : S i) : fr S V (sA V i k x) :=
  ⟨rfl, rfl, fun a ha => ⟨rfl, by funext b; rw [gA_sA, if_neg]; rintro ⟨p, -⟩; subst p; exact ha h⟩⟩
theorem fr_sF {S : Nat → Prop} {V : mV} {i : Nat} {g : Nat → Int} (h : S i) : fr S V (sF V i g) :=
  ⟨rfl, rfl, fun a ha => ⟨rfl, by funext b; rw [gA_sF, if_neg]; intro p; subst p; exact ha h⟩⟩
theorem fr_rput {S : Nat → Prop} {V : mV} {r : Nat} {k v : Int} (h : S (r + 1)) : fr S V (rput V r k v) := by
  unfold rput; split
  · exact fr_sA h
  · exact fr_refl
theorem fr_radd {S : Nat → Prop} {V : mV} {r c : Nat} {v : Int} (h : S (r + 1)) (h2 : S r) : fr S V (radd V r c v) := by
  unfold radd; split
  · exact (fr_sA h).trans (fr_sI h2)
  · exact fr_refl
theorem fr_rcut {S : Nat → Prop} {V : mV} {r : Nat} {k : Int} (h2 : S r) : fr S V (rcut V r k) := by
  unfold rcut; split
  · exact fr_sI h2
  · exact fr_refl
theorem fr_rset {S : Nat → Prop} {V : mV} {r : Nat} {m : Int} {f : Nat → Int} (h : S (r + 1)) : fr S V (rset V r m f) := fr_sF h
theorem fr_rfill {S : Nat → Prop} {V : mV} {r c : Nat} {k v : Int} (h : S (r + 1)) (h2 : S r) : fr S V (rfill V r c k v) := (fr_sI h2).trans (fr_rset h)
theorem fr_rcopy {S : Nat → Prop} {V : mV} {r c o : Nat} (h : S (r + 1)) (h2 : S r) : fr S V (rcopy V r c o) := (fr_sI h2).trans (fr_rset h)
/-- a row holds n numbers f -/
def rw' (V : mV) (r : Nat) (n : Int) (f : Int → Int) : Prop := gI V r 1 = n ∧ ∀ j, 0 ≤ j → j < n → rc V r j = f j
theorem rw'.fr {S : Nat → Prop} {V V1 : mV} {r : Nat} {n : Int} {f : Int → Int} (h : rw' V r n f) (k : fr S V V1) (h1 : ¬ S r) (h2 : ¬ S (r + 1)) : rw' V1 r n f :=
  ⟨by rw [k.I h1]; exact h.1, fun j a b => by rw [← h.2 j a b]; exact k.A h2 _⟩
theorem rc_fr {S : Nat → Prop} {V V1 : mV} {r : Nat} (k : fr S V V1) (h2 : ¬ S (r + 1)) : rc V1 r = rc V r := by funext j; exact k.A h2 _
section
variable {G : mG} {V : mV} {r : Nat} {n k v : Int} {f : Int → Int}
theorem rw_rz {cap : Nat} (hq : qG G (r + 1) = cap) (h : gI V r 1 = n) (hn : 0 ≤ n ∧ n ≤ (cap : Int)) : rz G V r := ⟨by rw [h]; exact hn.1, by rw [h, hq]; exact hn.2⟩
theorem rw_get {cap : Nat} (hr : is7 G r) (hq : qG G (r + 1) = cap) (h : rw' V r n f) (hn : n ≤ (cap : Int)) (hk : 0 ≤ k ∧ k < n) : F_X7_get G r k V = some (V, f k) := by
  have hc := s7_c hr
  rw [p7_get hr (rw_rz hq h.1 ⟨by omega, hn⟩) ⟨by omega, by omega⟩, rget_in hk.1 (by rw [h.1]; exact hk.2), h.2 k hk.1 hk.2]
theorem rw_get_out {cap : Nat} (hr : is7 G r) (hq : qG G (r + 1) = cap) (h : rw' V r n f) (hn : 0 ≤ n ∧ n ≤ (cap : Int)) (hk : rg k) (ho : k < 0 ∨ n ≤ k) : F_X7_get G r k V = some (V, -1) := by
  rw [p7_get hr (rw_rz hq h.1 hn) hk, rget_out (by rw [h.1]; exact ho)]
/-- a number put in at its place -/
theorem rw_put {cap : Nat} (hr : is7 G r) (hq : qG G (r + 1) = cap) (h : rw' V r n f) (hn : n ≤ (cap : Int)) (hk : 0 ≤ k ∧ k < n) : F_X7_put G r k v V = some (sA V (r + 1) k.toNat v, 0) ∧ rw' (sA V (r + 1) k.toNat v) r n (uf f k v) := by
  have hc := s7_c hr
  refine ⟨?_, h.1, fun j a b => ?_⟩
  · rw [p7_put hr (rw_rz hq h.1 ⟨by omega, hn⟩) ⟨by omega, by omega⟩]
    unfold rput
    rw [if_pos ⟨hk.1, by rw [h.1]; exact hk.2⟩]
  · show gA (sA V (r + 1) k.toNat v) (r + 1) j.toNat = uf f k v j
    rw [gA_sA]
    unfold uf
    by_cases e : j = k
    · rw [if_pos ⟨rfl, by rw [e]⟩, if_pos e]
    · rw [if_neg (by rintro ⟨-, q⟩; omega), if_neg e]; exact h.2 j a b
end
/-- facts of the course -/
def kC (V : mV) (cr : Nat) : Prop := gI V (cr + 1) 1 = 43 ∧ ∀ j, -1000000 ≤ rc V (cr + 1) j ∧ rc V (cr + 1) j ≤ 1000000
theorem kC.fr {S : Nat → Prop} {V V1 : mV} {cr : Nat} (h : kC V cr) (k : fr S V V1) (h1 : ¬ S (cr + 1)) (h2 : ¬ S (cr + 2)) : kC V1 cr :=
  ⟨by rw [k.I h1]; exact h.1, by rw [rc_fr k h2]; exact h.2⟩
theorem k_put {G : mG} {V : mV} {cr : Nat} {k v : Int} (hG : is2 G cr) (hk : kC V cr) (h : 0 ≤ k ∧ k < 43) (hv : -1000000 ≤ v ∧ v ≤ 1000000) :
    ∃ V', F_X7_put G (cr + 1) k v V = some (V', 0) ∧ kC V' cr ∧ fr (fun i => i = cr + 2) V V' ∧ ∀ j, 0 ≤ j → rc V' (cr + 1) j = if j = k then v else rc V (cr + 1) j := by
  have hR : ∀ j, rc (sA V (cr + 2) k.toNat v) (cr + 1) j = if j.toNat = k.toNat then v else rc V (cr + 1) j := by
    intro j
    show gA (sA V (cr + 2) k.toNat v) (cr + 1 + 1) j.toNat = _
    rw [gA_sA]
    by_cases e : j.toNat = k.toNat
    · rw [if_pos ⟨rfl, e⟩, if_pos e]
    · rw [if_neg (fun q => e q.2), if_neg e]; rfl
  refine ⟨sA V (cr + 2) k.toNat v, ?_, ⟨hk.1, fun j => ?_⟩, fr_sA rfl, fun j hj => ?_⟩
  · rw [p7_put (s2_0s hG) (rw_rz (s2_0c hG) hk.1 ⟨by decide, by decide⟩) ⟨by omega, by omega⟩]
    unfold rput
    rw [if_pos ⟨h.1, by rw [hk.1]; exact h.2⟩]
  · rw [hR]; split
    · exact hv
    · exact hk.2 j
  · rw [hR]
    by_cases e : j = k
    · rw [if_pos e, if_pos (by rw [e])]
    · rw [if_neg e, if_neg (by omega)]
theorem k_get {G : mG} {V : mV} {cr : Nat} {k : Int} (hG : is2 G cr) (hk : kC V cr) (h : 0 ≤ k ∧ k < 43) : F_X7_get G (cr + 1) k V = some (V, rc V (cr + 1) k) := by
  rw [p7_get (s2_0s hG) (rw_rz (s2_0c hG) hk.1 ⟨by decide, by decide⟩) ⟨by omega, by omega⟩, rget_in h.1 (by rw [hk.1]; exact h.2)]
/-- a formula's picture -/
def vF (V : mV) (f : Nat) (cs : List Int) : Prop := gI V (f + 1) 1 = (cs.length : Int) ∧ cs.length ≤ 1600 ∧ cls (gA V (f + 2)) 0 cs ∧ gI V (f + 3) 1 = 64
theorem cls_cg {c d : Nat → Int} (h : ∀ j, d j = c j) : ∀ {cs : List Int} {k : Nat}, cls c k cs → cls d k cs
  | [], _, _ => trivial
  | _ :: _, k, p => ⟨by rw [h k]; exact p.1, cls_cg h p.2⟩
theorem vF.fr {S : Nat → Prop} {V V1 : mV} {f : Nat} {cs : List Int} (h : vF V f cs) (k : fr S V V1) (h1 : ¬ S (f + 1)) (h2 : ¬ S (f + 2)) (h3 : ¬ S (f + 3)) : vF V1 f cs :=
  ⟨by rw [k.I h1]; exact h.1, h.2.1, cls_cg (fun j => k.A h2 j) h.2.2.1, by rw [k.I h3]; exact h.2.2.2⟩
/-- which parts codes may ask -/
def pok (S : List Int) (cs : List Int) : Prop := ∀ v ∈ cs, v ≠ 60 ∧ (40 ≤ v → v ≤ 49 → v - 40 ∈ S)
theorem est_cg {fa fb ka kb : Int → Int} {v : Int} {s : List Int} (h60 : v ≠ 60) (h : 40 ≤ v → v ≤ 49 → fa (v - 40) = fb (v - 40)) : est fa ka v s = est fb kb v s := by
  unfold est
  rw [if_neg h60, if_neg h60]
  by_cases c : 40 ≤ v ∧ v ≤ 49
  · rw [if_pos c, if_pos c, h c.1 c.2]
  · rw [if_neg c, if_neg c]
theorem evs_cg {fa fb ka kb : Int → Int} {S : List Int} (h : ∀ k ∈ S, fa k = fb k) : ∀ {cs : List Int} {s : List Int}, pok S cs → evs fa ka cs s = evs fb kb cs s
  | [], _, _ => rfl
  | v :: cs, s, hp => by
    have h1 := hp v List.mem_cons_self
    have e := est_cg (ka := ka) (kb := kb) (s := s) h1.1 (fun a b => h _ (h1.2 a b))
    unfold evs
    rw [e]
    cases est fb kb v s with
    | none => rfl
    | some s' => exact evs_cg h (fun w hw => hp w (List.mem_cons_of_mem _ hw))
/-- a formula that was read well: its kind, its parts -/
def fok (b : Bool) (S : List Int) (cs : List Int) : Prop := cs = [] ∨ (okc b 40 cs ∧ pok S cs)
theorem okc_tell {b : Bool} {S cs : List Int} (ho : okc b 40 cs) (hp : pok S cs) {fa fb ka : Int → Int} (hf : okF fa ka) (h : ∀ k ∈ S, fa k = fb k) : evs fa ka cs [] = some [tell fb k0 cs] ∧ (-1000000 ≤ tell fb k0 cs ∧ tell fb k0 cs ≤ 1000000) ∧ (b = true → tell fb k0 cs = 0 ∨ tell fb k0 cs = 1) := by
  obtain ⟨x, e1, e2, e3⟩ := ho fa ka hf [] (by decide)
  have e4 : tell fb k0 cs = x := by unfold tell; rw [← evs_cg (ka := ka) (kb := k0) h hp, e1]
  rw [e4]
  exact ⟨e1, e2, e3⟩
theorem c_tell {G : mG} {V : mV} {cr f : Nat} {b : Bool} {S cs : List Int} {fb : Int → Int} (hG : is2 G cr) (hF : is3 G f) (hv : vF V f cs) (hk : kC V cr) (hne : cr + 2 ≠ f + 4) (ho : okc b 40 cs) (hp : pok S cs) (hag : ∀ k ∈ S, rc V (cr + 1) (wrd k) = fb k) :
    ∃ V', F_X3_value G f (cr + 1) V = some (V', tell fb k0 cs) ∧ fr (fun i => i = f + 4) V V' ∧ (-1000000 ≤ tell fb k0 cs ∧ tell fb k0 cs ≤ 1000000) ∧ (b = true → tell fb k0 cs = 0 ∨ tell fb k0 cs = 1) := by
  have hof : okF (fun k => rc V (cr + 1) (wrd k)) (fun a => if 0 ≤ a ∧ a < 10 then rc V (cr + 1) (33 + a) else 0) := ⟨fun k => hk.2 _, fun k => by
    show _ ≤ (if 0 ≤ k ∧ k < 10 then rc V (cr + 1) (33 + k) else 0) ∧ (if 0 ≤ k ∧ k < 10 then rc V (cr + 1) (33 + k) else 0) ≤ _
    split
    · exact hk.2 _
    · decide⟩
  obtain ⟨e1, e2, e3⟩ := okc_tell ho hp hof hag
  obtain ⟨g, e4⟩ := p3_value hF hv.2.2.2 (fun j => by have := hk.2 j; exact ⟨by omega, by omega⟩) (s2_0s hG) hk.1 (s2_0c hG) hne hv.1 hv.2.1 hv.2.2.1 e1
  exact ⟨_, e4, fr_sF rfl, e2, e3⟩
theorem p3_told {G : mG} {V : mV} {f : Nat} {cs : List Int} (hv : vF V f cs) : F_X3_isTold G f V = some (V, if cs = [] then 0 else 1) := by
  have hl := hv.2.1
  have h1 := hv.1
  unfold F_X3_isTold
  refine E_bd p7_size (E_gd (by rw [h1]; exact ⟨by omega, by omega⟩) (E_if (fun q => E_so rfl ?_) (fun q => E_so rfl ?_)))
  · rw [if_pos]
    rw [h1] at q
    exact List.length_eq_zero_iff.mp (by omega)
  · rw [if_neg]
    intro e; subst e; rw [h1] at q; exact q rfl

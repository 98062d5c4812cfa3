/-! THE PURE FUNCTIONS: each method as a function over the tables; where it says some, the machine does so -/
noncomputable def gd {β : Type} (P : Prop) (e : Option β) : Option β := @ite _ P (Classical.propDecidable P) e none
def lt {α β : Type} (x : α) (f : α → Option β) : Option β := f x
def bd {σ α β : Type} (e : Option (σ × α)) (f : σ → α → Option β) : Option β := match e with
  | some p => f p.1 p.2
  | none => none
def lp {σ τ : Type} (B : σ → τ → Option (τ × Nat × σ)) : Nat → σ → τ → Option (τ × Nat × σ)
  | 0, _, _ => none
  | f + 1, s, V => match B s V with
    | none => none
    | some p => if p.2.1 = 0 then lp B f p.2.2 p.1 else some p
def FU : Nat := 5000
theorem gd_some {β : Type} {P : Prop} {e : Option β} {r : β} (h : gd P e = some r) : P ∧ e = some r := by
  unfold gd at h
  split at h
  · next hp => exact ⟨hp, h⟩
  · exact (a_no h).elim
theorem lt_some {α β : Type} {x : α} {f : α → Option β} {r : β} (h : lt x f = some r) : f x = some r := h
theorem bd_some {σ α β : Type} {e : Option (σ × α)} {f : σ → α → Option β} {r : β} (h : bd e f = some r) : ∃ V v, e = some (V, v) ∧ f V v = some r := by
  unfold bd at h
  cases e with
  | none => exact (a_no h).elim
  | some p => exact ⟨p.1, p.2, rfl, h⟩
theorem ite_t {β : Type} {c : Prop} [hd : Decidable c] {a b r : Option β} (hc : c) (h : (if c then a else b) = r) : a = r := by rw [if_pos hc] at h; exact h
theorem ite_f {β : Type} {c : Prop} [hd : Decidable c] {a b r : Option β} (hc : ¬ c) (h : (if c then a else b) = r) : b = r := by rw [if_neg hc] at h; exact h
theorem lp_go {σ τ : Type} {B : σ → τ → Option (τ × Nat × σ)} {P0 : σ → τ → Prop} {PE : Nat → σ → τ → Prop} (hB : ∀ s V V' q, B s V = some (V', q) → (q.1 = 0 → P0 q.2 V') → (q.1 ≠ 0 → PE q.1 q.2 V') → P0 s V) : ∀ (fu : Nat) (s : σ) (V V' : τ) (q : Nat × σ), lp B fu s V = some (V', q) → PE q.1 q.2 V' → P0 s V := by
  intro fu
  induction fu with
  | zero => intro s V V' q h; exact (a_no h).elim
  | succ fu ih =>
    intro s V V' q h hp
    unfold lp at h
    cases hb : B s V with
    | none => rw [hb] at h; exact (a_no h).elim
    | some p =>
      rw [hb] at h
      simp only at h
      split at h
      · next h0 => exact hB s V p.1 p.2 hb (fun _ => ih _ _ _ _ h hp) (fun q => absurd h0 q)
      · next h0 =>
        cases h
        exact hB s V _ _ hb (fun q => absurd q h0) (fun _ => hp)
theorem lp_ne {σ τ : Type} {B : σ → τ → Option (τ × Nat × σ)} : ∀ (fu : Nat) (s : σ) (V V' : τ) (q : Nat × σ), lp B fu s V = some (V', q) → q.1 ≠ 0 := by
  intro fu
  induction fu with
  | zero => intro s V V' q h; exact (a_no h).elim
  | succ fu ih =>
    intro s V V' q h
    unfold lp at h
    cases hb : B s V with
    | none => rw [hb] at h; exact (a_no h).elim
    | some p =>
      rw [hb] at h
      simp only at h
      split at h
      · exact ih _ _ _ _ h
      · next h0 => cases h; exact h0
def shl (a b : Int) : Int := a * ((2 ^ b.toNat : Nat) : Int)
def shr (a b : Int) : Int := a / ((2 ^ b.toNat : Nat) : Int)
def bnd (a b : Int) : Int := ((a.toNat &&& b.toNat : Nat) : Int)
def bor (a b : Int) : Int := ((a.toNat ||| b.toNat : Nat) : Int)
def pct (a : Int) : Int := a % 2 + a / 2 % 2 + a / 4 % 2 + a / 8 % 2 + a / 16 % 2 + a / 32 % 2 + a / 64 % 2 + a / 128 % 2 + a / 256 % 2 + a / 512 % 2
def qi (n z : Nat) (G : mG) (V' : mV) (v : Int) : Nat → Nat → mG → mV → Option Value → Prop := fun a b g w u => a = n ∧ b = z ∧ g = G ∧ w = V' ∧ u = some (.int (iI v))
def qj (n z : Nat) (G : mG) (V' : mV) (v : Int) : Nat → Nat → mG → mV → Option Value → Prop := fun a b g w u => a = n ∧ b = z ∧ g = G ∧ w = V' ∧ u = some (.long (lI v))
def qv (n z : Nat) (G : mG) (V' : mV) (_ : Int) : Nat → Nat → mG → mV → Option Value → Prop := fun a b g w u => a = n ∧ b = z ∧ g = G ∧ w = V' ∧ u = none
section
variable {X : mX} {d y pc nx : Nat} {L L' : mL} {st st' rest : List Value} {n z n' z' : Nat} {G G' : mG} {V V' : mV} {Q : Nat → Nat → mG → mV → Option Value → Prop}
theorem qi_toR {as : List Value} {v : Int} (hL : a_ent (a_mx y) as = L) (h : T X d y 0 L [] n z G V (qi n z G V' v)) : Rn X d y as n z G V n z G V' (some (.int (iI v))) := T.toR hL h
theorem qj_toR {as : List Value} {v : Int} (hL : a_ent (a_mx y) as = L) (h : T X d y 0 L [] n z G V (qj n z G V' v)) : Rn X d y as n z G V n z G V' (some (.long (lI v))) := T.toR hL h
theorem qv_toR {as : List Value} {v : Int} (hL : a_ent (a_mx y) as = L) (h : T X d y 0 L [] n z G V (qv n z G V' v)) : Rn X d y as n z G V n z G V' none := T.toR hL h
theorem qf_i {x v : Int} (h : some (V, x) = some (V', v)) : qi n z G V' v n z G V (some (.int (iI x))) := by cases h; exact ⟨rfl, rfl, rfl, rfl, rfl⟩
theorem qf_j {x v : Int} (h : some (V, x) = some (V', v)) : qj n z G V' v n z G V (some (.long (lI x))) := by cases h; exact ⟨rfl, rfl, rfl, rfl, rfl⟩
theorem qf_v {x v : Int} (h : some (V, x) = some (V', v)) : qv n z G V' v n z G V none := by cases h; exact ⟨rfl, rfl, rfl, rfl, rfl⟩
theorem k8_ishl {a b : Int} (hf : a_fetch y pc = some (.ishl, nx)) (h : 0 ≤ b ∧ b < 32) (k : T X d y nx L (.int (iI (shl a b)) :: rest) n z G V Q) : T X d y pc L (.int (iI b) :: .int (iI a) :: rest) n z G V Q := k9_ishl hf h.1 h.2 k
theorem k8_ishr {a b : Int} (hf : a_fetch y pc = some (.ishr, nx)) (ha : rg a) (h : 0 ≤ b ∧ b < 32) (k : T X d y nx L (.int (iI (shr a b)) :: rest) n z G V Q) : T X d y pc L (.int (iI b) :: .int (iI a) :: rest) n z G V Q := k9_ishr hf ha h.1 h.2 k
theorem k8_iand2 {a : Int} (hf : a_fetch y pc = some (.iand, nx)) (k : T X d y nx L (.int (iI (a % 2)) :: rest) n z G V Q) : T X d y pc L (.int (iI 1) :: .int (iI a) :: rest) n z G V Q := k9_iandm 1 hf (by decide) (by decide) k
theorem k8_iand16 {a : Int} (hf : a_fetch y pc = some (.iand, nx)) (k : T X d y nx L (.int (iI (a % 16)) :: rest) n z G V Q) : T X d y pc L (.int (iI 15) :: .int (iI a) :: rest) n z G V Q := k9_iandm 4 hf (by decide) (by decide) k
theorem k8_iand32 {a : Int} (hf : a_fetch y pc = some (.iand, nx)) (k : T X d y nx L (.int (iI (a % 32)) :: rest) n z G V Q) : T X d y pc L (.int (iI 31) :: .int (iI a) :: rest) n z G V Q := k9_iandm 5 hf (by decide) (by decide) k
theorem k8_iand256 {a : Int} (hf : a_fetch y pc = some (.iand, nx)) (k : T X d y nx L (.int (iI (a % 256)) :: rest) n z G V Q) : T X d y pc L (.int (iI 255) :: .int (iI a) :: rest) n z G V Q := k9_iandm 8 hf (by decide) (by decide) k
theorem k8_iand {a b : Int} (hf : a_fetch y pc = some (.iand, nx)) (h : 0 ≤ a ∧ 0 ≤ b) (k : T X d y nx L (.int (iI (bnd a b)) :: rest) n z G V Q) : T X d y pc L (.int (iI b) :: .int (iI a) :: rest) n z G V Q := by
  have e1 : a = ((a.toNat : Nat) : Int) := by omega
  have e2 : b = ((b.toNat : Nat) : Int) := by omega
  rw [e1, e2]
  exact k9_iandn hf k
theorem k8_ior {a b : Int} (hf : a_fetch y pc = some (.ior, nx)) (h : 0 ≤ a ∧ 0 ≤ b) (k : T X d y nx L (.int (iI (bor a b)) :: rest) n z G V Q) : T X d y pc L (.int (iI b) :: .int (iI a) :: rest) n z G V Q := by
  have e1 : a = ((a.toNat : Nat) : Int) := by omega
  have e2 : b = ((b.toNat : Nat) : Int) := by omega
  rw [e1, e2]
  exact k9_iorn hf k
def bo2 (a b : Int) : Int := if b = -1 then -1 else bor a b
theorem iI_orm (a : Int) : iI a ||| iI (-1) = iI (-1) := Int32.toBitVec_inj.mp (by
  rw [Int32.toBitVec_or, show (iI (-1)).toBitVec = BitVec.allOnes 32 by decide]
  exact BitVec.or_allOnes)
/-- what is put in is -1: nothing else matters -/
theorem k8_ior2 {a b : Int} (hf : a_fetch y pc = some (.ior, nx)) (h : (0 ≤ a ∧ 0 ≤ b) ∨ b = -1) (k : T X d y nx L (.int (iI (bo2 a b)) :: rest) n z G V Q) : T X d y pc L (.int (iI b) :: .int (iI a) :: rest) n z G V Q := by
  by_cases e : b = -1
  · subst e
    have e2 : bo2 a (-1) = -1 := if_pos rfl
    rw [e2] at k
    exact t_s hf rfl rfl (show some (Value.int (iI a ||| iI (-1)) :: rest) = _ by rw [iI_orm a]) k
  · have e2 : bo2 a b = bor a b := if_neg e
    rw [e2] at k
    exact k8_ior hf (by omega) k
theorem k8_lsw {a dd : Int} {tn : Nat} (hf : a_fetch y pc = some (.lookupswitch dd #[], nx)) (ht : dd.toNat = tn) (k : T X d y tn L rest n z G V Q) : T X d y pc L (.int (iI a) :: rest) n z G V Q := t_b hf rfl rfl rfl rfl rfl rfl rfl (pc' := tn) (by simp only [a_br]; rw [ht]) k
theorem lI_and1 (a : Int) : lI a &&& lI 1 = lI (a % 2) := by
  apply l_ext
  rw [Int64.toBitVec_and, BitVec.toNat_and, lI_tn, show (lI 1).toBitVec.toNat = 2 ^ 1 - 1 by decide, Nat.and_two_pow_sub_one_eq_mod, Int.natCast_emod, lI_tn]
  show a % 18446744073709551616 % 2 = a % 2 % 18446744073709551616
  omega
theorem k8_land1 {a : Int} (hf : a_fetch y pc = some (.land, nx)) (k : T X d y nx L (.long (lI (a % 2)) :: rest) n z G V Q) : T X d y pc L (.long (lI 1) :: .long (lI a) :: rest) n z G V Q := t_s hf rfl rfl (by rw [← lI_and1]; rfl) k
theorem lsh_amt : ∀ n : Fin 64, (((iI (n.val : Int)).toInt64 &&& 63).toBitVec.smod 64).toNat = n.val := by decide +kernel
theorem lI_shr {a : Int} (ha : rl a) {c : Int} (h0 : 0 ≤ c) (h1 : c < 64) : lI a >>> ((iI c).toInt64 &&& 63) = lI (shr a c) := by
  have e := lsh_amt ⟨c.toNat, by omega⟩
  simp only at e
  rw [show ((c.toNat : Nat) : Int) = c by omega] at e
  apply Int64.toInt_inj.mp
  have h : (lI a >>> ((iI c).toInt64 &&& 63)).toInt = a / ((2 ^ c.toNat : Nat) : Int) := by
    show ((lI a).toBitVec.sshiftRight (((iI c).toInt64 &&& 63).toBitVec.smod 64).toNat).toInt = _
    rw [e, BitVec.toInt_sshiftRight]
    show (lI a).toInt >>> c.toNat = _
    rw [lI_t ha, Int.shiftRight_eq_div_pow]
  rw [h]
  have hp : (0 : Int) < ((2 ^ c.toNat : Nat) : Int) := by
    have := Nat.pow_pos (n := c.toNat) (show 0 < 2 by decide)
    omega
  have h2 : rl (a / ((2 ^ c.toNat : Nat) : Int)) := by
    constructor
    · rw [Int.le_ediv_iff_mul_le hp]
      have : (1 : Int) ≤ ((2 ^ c.toNat : Nat) : Int) := hp
      have h3 : -9223372036854775808 * ((2 ^ c.toNat : Nat) : Int) ≤ -9223372036854775808 * 1 := Int.mul_le_mul_of_nonpos_left (by decide) this
      omega
    · have h3 : a / ((2 ^ c.toNat : Nat) : Int) < 9223372036854775808 := by
        rw [Int.ediv_lt_iff_lt_mul hp]
        have : (1 : Int) ≤ ((2 ^ c.toNat : Nat) : Int) := hp
        have h4 : 9223372036854775808 * 1 ≤ 9223372036854775808 * ((2 ^ c.toNat : Nat) : Int) := Int.mul_le_mul_of_nonneg_left this (by decide)
        omega
      omega
  show _ = (lI (shr a c)).toInt
  rw [show shr a c = a / ((2 ^ c.toNat : Nat) : Int) from rfl, lI_t h2]
theorem k8_lshr {a b : Int} (hf : a_fetch y pc = some (.lshr, nx)) (ha : rl a) (h : 0 ≤ b ∧ b < 64) (k : T X d y nx L (.long (lI (shr a b)) :: rest) n z G V Q) : T X d y pc L (.int (iI b) :: .long (lI a) :: rest) n z G V Q := t_s hf rfl rfl (by rw [← lI_shr ha h.1 h.2]; rfl) k
def us32 (x y : Int32) : Int32 := (x.toUInt32 >>> (y.toUInt32 &&& Int32.toUInt32 31)).toInt32
def bc1 (x : Int32) : Int32 := x - (us32 x (Int32.ofInt 1) &&& Int32.ofInt 1431655765)
def bc2 (x : Int32) : Int32 := (x &&& Int32.ofInt 858993459) + (us32 x (Int32.ofInt 2) &&& Int32.ofInt 858993459)
def bc3 (x : Int32) : Int32 := (x + us32 x (Int32.ofInt 4)) &&& Int32.ofInt 252645135
def bc4 (x : Int32) : Int32 := x + us32 x (Int32.ofInt 8)
def bc5 (x : Int32) : Int32 := x + us32 x (Int32.ofInt 16)
def bc6 (x : Int32) : Int32 := x &&& Int32.ofInt 63
theorem bc_all : ∀ n : Fin 1024, bc6 (bc5 (bc4 (bc3 (bc2 (bc1 (iI (n.val : Int))))))) = iI (pct (n.val : Int)) := by decide +kernel
theorem bc_eq {a : Int} (h : 0 ≤ a ∧ a < 1024) : bc6 (bc5 (bc4 (bc3 (bc2 (bc1 (iI a)))))) = iI (pct a) := by
  have e := bc_all ⟨a.toNat, by omega⟩
  simp only at e
  rwa [show ((a.toNat : Nat) : Int) = a by omega] at e
end
def qG (G : mG) (a : Nat) : Nat := match G.1 a with
  | .inr p => p.2
  | .inl _ => 0
def gR (G : mG) (a k : Nat) : Nat := match G.2.1 a k with
  | .ref i => i
  | _ => 0
theorem qGf {G : mG} {a k n : Nat} (h : G.1 a = .inr (k, n)) : G.1 a = .inr (k, qG G a) := by
  have e : qG G a = n := by unfold qG; rw [h]
  rw [e]; exact h
def is7 (G : mG) (r : Nat) : Prop := G.1 r = .inl 7 ∧ G.2.1 r 0 = .ref (r + 1) ∧ G.1 (r + 1) = .inr (0, qG G (r + 1)) ∧ qG G (r + 1) ≤ 2000
theorem s7_0r {G : mG} {r : Nat} (h : is7 G r) : G.2.1 r 0 = .ref (r + 1) := h.2.1
theorem s7_0s {G : mG} {r : Nat} (h : is7 G r) : G.1 (r + 1) = .inr (0, qG G (r + 1)) := h.2.2.1
theorem s7_c {G : mG} {r : Nat} (h : is7 G r) : qG G (r + 1) ≤ 2000 := h.2.2.2
def is3 (G : mG) (r : Nat) : Prop := G.1 r = .inl 3 ∧ G.2.1 r 0 = .ref (r + 1) ∧ is7 G (r + 1) ∧ qG G (r + 2) = 1600 ∧ G.2.1 r 1 = .ref (r + 3) ∧ is7 G (r + 3) ∧ qG G (r + 4) = 64
theorem s3_0r {G : mG} {r : Nat} (h : is3 G r) : G.2.1 r 0 = .ref (r + 1) := h.2.1
theorem s3_0s {G : mG} {r : Nat} (h : is3 G r) : is7 G (r + 1) := h.2.2.1
theorem s3_0c {G : mG} {r : Nat} (h : is3 G r) : qG G (r + 2) = 1600 := h.2.2.2.1
theorem s3_1r {G : mG} {r : Nat} (h : is3 G r) : G.2.1 r 1 = .ref (r + 3) := h.2.2.2.2.1
theorem s3_1s {G : mG} {r : Nat} (h : is3 G r) : is7 G (r + 3) := h.2.2.2.2.2.1
theorem s3_1c {G : mG} {r : Nat} (h : is3 G r) : qG G (r + 4) = 64 := h.2.2.2.2.2.2
def is0 (G : mG) (r : Nat) : Prop := G.1 r = .inl 0 ∧ G.2.1 r 0 = .ref (r + 1) ∧ is7 G (r + 1) ∧ qG G (r + 2) = 100 ∧ G.2.1 r 1 = .ref (r + 3) ∧ is7 G (r + 3) ∧ qG G (r + 4) = 1024 ∧ G.2.1 r 2 = .ref (r + 5) ∧ is7 G (r + 5) ∧ qG G (r + 6) = 10
theorem s0_0r {G : mG} {r : Nat} (h : is0 G r) : G.2.1 r 0 = .ref (r + 1) := h.2.1
theorem s0_0s {G : mG} {r : Nat} (h : is0 G r) : is7 G (r + 1) := h.2.2.1
theorem s0_0c {G : mG} {r : Nat} (h : is0 G r) : qG G (r + 2) = 100 := h.2.2.2.1
theorem s0_1r {G : mG} {r : Nat} (h : is0 G r) : G.2.1 r 1 = .ref (r + 3) := h.2.2.2.2.1
theorem s0_1s {G : mG} {r : Nat} (h : is0 G r) : is7 G (r + 3) := h.2.2.2.2.2.1
theorem s0_1c {G : mG} {r : Nat} (h : is0 G r) : qG G (r + 4) = 1024 := h.2.2.2.2.2.2.1
theorem s0_2r {G : mG} {r : Nat} (h : is0 G r) : G.2.1 r 2 = .ref (r + 5) := h.2.2.2.2.2.2.2.1
theorem s0_2s {G : mG} {r : Nat} (h : is0 G r) : is7 G (r + 5) := h.2.2.2.2.2.2.2.2.1
theorem s0_2c {G : mG} {r : Nat} (h : is0 G r) : qG G (r + 6) = 10 := h.2.2.2.2.2.2.2.2.2
def is1 (G : mG) (r : Nat) : Prop := G.1 r = .inl 1 ∧ G.2.1 r 0 = .ref (r + 1) ∧ is7 G (r + 1) ∧ qG G (r + 2) = 10 ∧ G.2.1 r 1 = .ref (r + 3) ∧ is7 G (r + 3) ∧ qG G (r + 4) = 10 ∧ G.2.1 r 2 = .ref (r + 5) ∧ is7 G (r + 5) ∧ qG G (r + 6) = 10 ∧ G.2.1 r 3 = .ref (r + 7) ∧ is7 G (r + 7) ∧ qG G (r + 8) = 10 ∧ G.2.1 r 4 = .ref (r + 9) ∧ is7 G (r + 9) ∧ qG G (r + 10) = 100 ∧ G.2.1 r 5 = .ref (r + 11) ∧ is7 G (r + 11) ∧ qG G (r + 12) = 8 ∧ G.2.1 r 6 = .ref (r + 13) ∧ is7 G (r + 13) ∧ qG G (r + 14) = 8 ∧ G.2.1 r 7 = .ref (r + 15) ∧ is7 G (r + 15) ∧ qG G (r + 16) = 24 ∧ G.2.1 r 8 = .ref (r + 17) ∧ is7 G (r + 17) ∧ qG G (r + 18) = 24 ∧ G.2.1 r 9 = .ref (r + 19) ∧ is7 G (r + 19) ∧ qG G (r + 20) = 24 ∧ G.2.1 r 10 = .ref (r + 21) ∧ is3 G (r + 21) ∧ G.2.1 r 11 = .ref (r + 26) ∧ is3 G (r + 26) ∧ G.2.1 r 12 = .ref (r + 31) ∧ is3 G (r + 31) ∧ G.2.1 r 13 = .ref (r + 36) ∧ is3 G (r + 36)
theorem s1_0r {G : mG} {r : Nat} (h : is1 G r) : G.2.1 r 0 = .ref (r + 1) := h.2.1
theorem s1_0s {G : mG} {r : Nat} (h : is1 G r) : is7 G (r + 1) := h.2.2.1
theorem s1_0c {G : mG} {r : Nat} (h : is1 G r) : qG G (r + 2) = 10 := h.2.2.2.1
theorem s1_1r {G : mG} {r : Nat} (h : is1 G r) : G.2.1 r 1 = .ref (r + 3) := h.2.2.2.2.1
theorem s1_1s {G : mG} {r : Nat} (h : is1 G r) : is7 G (r + 3) := h.2.2.2.2.2.1
theorem s1_1c {G : mG} {r : Nat} (h : is1 G r) : qG G (r + 4) = 10 := h.2.2.2.2.2.2.1
theorem s1_2r {G : mG} {r : Nat} (h : is1 G r) : G.2.1 r 2 = .ref (r + 5) := h.2.2.2.2.2.2.2.1
theorem s1_2s {G : mG} {r : Nat} (h : is1 G r) : is7 G (r + 5) := h.2.2.2.2.2.2.2.2.1
theorem s1_2c {G : mG} {r : Nat} (h : is1 G r) : qG G (r + 6) = 10 := h.2.2.2.2.2.2.2.2.2.1
theorem s1_3r {G : mG} {r : Nat} (h : is1 G r) : G.2.1 r 3 = .ref (r + 7) := h.2.2.2.2.2.2.2.2.2.2.1
theorem s1_3s {G : mG} {r : Nat} (h : is1 G r) : is7 G (r + 7) := h.2.2.2.2.2.2.2.2.2.2.2.1
theorem s1_3c {G : mG} {r : Nat} (h : is1 G r) : qG G (r + 8) = 10 := h.2.2.2.2.2.2.2.2.2.2.2.2.1
theorem s1_4r {G : mG} {r : Nat} (h : is1 G r) : G.2.1 r 4 = .ref (r + 9) := h.2.2.2.2.2.2.2.2.2.2.2.2.2.1
theorem s1_4s {G : mG} {r : Nat} (h : is1 G r) : is7 G (r + 9) := h.2.2.2.2.2.2.2.2.2.2.2.2.2.2.1
theorem s1_4c {G : mG} {r : Nat} (h : is1 G r) : qG G (r + 10) = 100 := h.2.2.2.2.2.2.2.2.2.2.2.2.2.2.2.1
theorem s1_5r {G : mG} {r : Nat} (h : is1 G r) : G.2.1 r 5 = .ref (r + 11) := h.2.2.2.2.2.2.2.2.2.2.2.2.2.2.2.2.1
theorem s1_5s {G : mG} {r : Nat} (h : is1 G r) : is7 G (r + 11) := h.2.2.2.2.2.2.2.2.2.2.2.2.2.2.2.2.2.1
theorem s1_5c {G : mG} {r : Nat} (h : is1 G r) : qG G (r + 12) = 8 := h.2.2.2.2.2.2.2.2.2.2.2.2.2.2.2.2.2.2.1
theorem s1_6r {G : mG} {r : Nat} (h : is1 G r) : G.2.1 r 6 = .ref (r + 13) := h.2.2.2.2.2.2.2.2.2.2.2.2.2.2.2.2.2.2.2.1
theorem s1_6s {G : mG} {r : Nat} (h : is1 G r) : is7 G (r + 13) := h.2.2.2.2.2.2.2.2.2.2.2.2.2.2.2.2.2.2.2.2.1
theorem s1_6c {G : mG} {r : Nat} (h : is1 G r) : qG G (r + 14) = 8 := h.2.2.2.2.2.2.2.2.2.2.2.2.2.2.2.2.2.2.2.2.2.1
theorem s1_7r {G : mG} {r : Nat} (h : is1 G r) : G.2.1 r 7 = .ref (r + 15) := h.2.2.2.2.2.2.2.2.2.2.2.2.2.2.2.2.2.2.2.2.2.2.1
theorem s1_7s {G : mG} {r : Nat} (h : is1 G r) : is7 G (r + 15) := h.2.2.2.2.2.2.2.2.2.2.2.2.2.2.2.2.2.2.2.2.2.2.2.1
theorem s1_7c {G : mG} {r : Nat} (h : is1 G r) : qG G (r + 16) = 24 := h.2.2.2.2.2.2.2.2.2.2.2.2.2.2.2.2.2.2.2.2.2.2.2.2.1
theorem s1_8r {G : mG} {r : Nat} (h : is1 G r) : G.2.1 r 8 = .ref (r + 17) := h.2.2.2.2.2.2.2.2.2.2.2.2.2.2.2.2.2.2.2.2.2.2.2.2.2.1
theorem s1_8s {G : mG} {r : Nat} (h : is1 G r) : is7 G (r + 17) := h.2.2.2.2.2.2.2.2.2.2.2.2.2.2.2.2.2.2.2.2.2.2.2.2.2.2.1
theorem s1_8c {G : mG} {r : Nat} (h : is1 G r) : qG G (r + 18) = 24 := h.2.2.2.2.2.2.2.2.2.2.2.2.2.2.2.2.2.2.2.2.2.2.2.2.2.2.2.1
theorem s1_9r {G : mG} {r : Nat} (h : is1 G r) : G.2.1 r 9 = .ref (r + 19) := h.2.2.2.2.2.2.2.2.2.2.2.2.2.2.2.2.2.2.2.2.2.2.2.2.2.2.2.2.1
theorem s1_9s {G : mG} {r : Nat} (h : is1 G r) : is7 G (r + 19) := h.2.2.2.2.2.2.2.2.2.2.2.2.2.2.2.2.2.2.2.2.2.2.2.2.2.2.2.2.2.1
theorem s1_9c {G : mG} {r : Nat} (h : is1 G r) : qG G (r + 20) = 24 := h.2.2.2.2.2.2.2.2.2.2.2.2.2.2.2.2.2.2.2.2.2.2.2.2.2.2.2.2.2.2.1
theorem s1_10r {G : mG} {r : Nat} (h : is1 G r) : G.2.1 r 10 = .ref (r + 21) := h.2.2.2.2.2.2.2.2.2.2.2.2.2.2.2.2.2.2.2.2.2.2.2.2.2.2.2.2.2.2.2.1
theorem s1_10s {G : mG} {r : Nat} (h : is1 G r) : is3 G (r + 21) := h.2.2.2.2.2.2.2.2.2.2.2.2.2.2.2.2.2.2.2.2.2.2.2.2.2.2.2.2.2.2.2.2.1
theorem s1_11r {G : mG} {r : Nat} (h : is1 G r) : G.2.1 r 11 = .ref (r + 26) := h.2.2.2.2.2.2.2.2.2.2.2.2.2.2.2.2.2.2.2.2.2.2.2.2.2.2.2.2.2.2.2.2.2.1
theorem s1_11s {G : mG} {r : Nat} (h : is1 G r) : is3 G (r + 26) := h.2.2.2.2.2.2.2.2.2.2.2.2.2.2.2.2.2.2.2.2.2.2.2.2.2.2.2.2.2.2.2.2.2.2.1
theorem s1_12r {G : mG} {r : Nat} (h : is1 G r) : G.2.1 r 12 = .ref (r + 31) := h.2.2.2.2.2.2.2.2.2.2.2.2.2.2.2.2.2.2.2.2.2.2.2.2.2.2.2.2.2.2.2.2.2.2.2.1
theorem s1_12s {G : mG} {r : Nat} (h : is1 G r) : is3 G (r + 31) := h.2.2.2.2.2.2.2.2.2.2.2.2.2.2.2.2.2.2.2.2.2.2.2.2.2.2.2.2.2.2.2.2.2.2.2.2.1
theorem s1_13r {G : mG} {r : Nat} (h : is1 G r) : G.2.1 r 13 = .ref (r + 36) := h.2.2.2.2.2.2.2.2.2.2.2.2.2.2.2.2.2.2.2.2.2.2.2.2.2.2.2.2.2.2.2.2.2.2.2.2.2.1
theorem s1_13s {G : mG} {r : Nat} (h : is1 G r) : is3 G (r + 36) := h.2.2.2.2.2.2.2.2.2.2.2.2.2.2.2.2.2.2.2.2.2.2.2.2.2.2.2.2.2.2.2.2.2.2.2.2.2.2
def is2 (G : mG) (r : Nat) : Prop := G.1 r = .inl 2 ∧ G.2.1 r 0 = .ref (r + 1) ∧ is7 G (r + 1) ∧ qG G (r + 2) = 43 ∧ G.2.1 r 1 = .ref (r + 3) ∧ is7 G (r + 3) ∧ qG G (r + 4) = 10 ∧ G.2.1 r 3 = .ref (r + 5) ∧ is7 G (r + 5) ∧ qG G (r + 6) = 2 ∧ G.2.1 r 4 = .ref (r + 7) ∧ is7 G (r + 7) ∧ qG G (r + 8) = 3 ∧ G.2.1 r 5 = .ref (r + 9) ∧ is7 G (r + 9) ∧ qG G (r + 10) = 10
theorem s2_0r {G : mG} {r : Nat} (h : is2 G r) : G.2.1 r 0 = .ref (r + 1) := h.2.1
theorem s2_0s {G : mG} {r : Nat} (h : is2 G r) : is7 G (r + 1) := h.2.2.1
theorem s2_0c {G : mG} {r : Nat} (h : is2 G r) : qG G (r + 2) = 43 := h.2.2.2.1
theorem s2_1r {G : mG} {r : Nat} (h : is2 G r) : G.2.1 r 1 = .ref (r + 3) := h.2.2.2.2.1
theorem s2_1s {G : mG} {r : Nat} (h : is2 G r) : is7 G (r + 3) := h.2.2.2.2.2.1
theorem s2_1c {G : mG} {r : Nat} (h : is2 G r) : qG G (r + 4) = 10 := h.2.2.2.2.2.2.1
theorem s2_3r {G : mG} {r : Nat} (h : is2 G r) : G.2.1 r 3 = .ref (r + 5) := h.2.2.2.2.2.2.2.1
theorem s2_3s {G : mG} {r : Nat} (h : is2 G r) : is7 G (r + 5) := h.2.2.2.2.2.2.2.2.1
theorem s2_3c {G : mG} {r : Nat} (h : is2 G r) : qG G (r + 6) = 2 := h.2.2.2.2.2.2.2.2.2.1
theorem s2_4r {G : mG} {r : Nat} (h : is2 G r) : G.2.1 r 4 = .ref (r + 7) := h.2.2.2.2.2.2.2.2.2.2.1
theorem s2_4s {G : mG} {r : Nat} (h : is2 G r) : is7 G (r + 7) := h.2.2.2.2.2.2.2.2.2.2.2.1
theorem s2_4c {G : mG} {r : Nat} (h : is2 G r) : qG G (r + 8) = 3 := h.2.2.2.2.2.2.2.2.2.2.2.2.1
theorem s2_5r {G : mG} {r : Nat} (h : is2 G r) : G.2.1 r 5 = .ref (r + 9) := h.2.2.2.2.2.2.2.2.2.2.2.2.2.1
theorem s2_5s {G : mG} {r : Nat} (h : is2 G r) : is7 G (r + 9) := h.2.2.2.2.2.2.2.2.2.2.2.2.2.2.1
theorem s2_5c {G : mG} {r : Nat} (h : is2 G r) : qG G (r + 10) = 10 := h.2.2.2.2.2.2.2.2.2.2.2.2.2.2.2
def is4 (G : mG) (r : Nat) : Prop := G.1 r = .inl 4 ∧ G.2.1 r 1 = .ref (r + 1) ∧ is7 G (r + 1) ∧ qG G (r + 2) = 10 ∧ G.2.1 r 2 = .ref (r + 3) ∧ is7 G (r + 3) ∧ qG G (r + 4) = 10 ∧ G.2.1 r 3 = .ref (r + 5) ∧ is7 G (r + 5) ∧ qG G (r + 6) = 100 ∧ G.2.1 r 4 = .ref (r + 7) ∧ is7 G (r + 7) ∧ qG G (r + 8) = 160
theorem s4_1r {G : mG} {r : Nat} (h : is4 G r) : G.2.1 r 1 = .ref (r + 1) := h.2.1
theorem s4_1s {G : mG} {r : Nat} (h : is4 G r) : is7 G (r + 1) := h.2.2.1
theorem s4_1c {G : mG} {r : Nat} (h : is4 G r) : qG G (r + 2) = 10 := h.2.2.2.1
theorem s4_2r {G : mG} {r : Nat} (h : is4 G r) : G.2.1 r 2 = .ref (r + 3) := h.2.2.2.2.1
theorem s4_2s {G : mG} {r : Nat} (h : is4 G r) : is7 G (r + 3) := h.2.2.2.2.2.1
theorem s4_2c {G : mG} {r : Nat} (h : is4 G r) : qG G (r + 4) = 10 := h.2.2.2.2.2.2.1
theorem s4_3r {G : mG} {r : Nat} (h : is4 G r) : G.2.1 r 3 = .ref (r + 5) := h.2.2.2.2.2.2.2.1
theorem s4_3s {G : mG} {r : Nat} (h : is4 G r) : is7 G (r + 5) := h.2.2.2.2.2.2.2.2.1
theorem s4_3c {G : mG} {r : Nat} (h : is4 G r) : qG G (r + 6) = 100 := h.2.2.2.2.2.2.2.2.2.1
theorem s4_4r {G : mG} {r : Nat} (h : is4 G r) : G.2.1 r 4 = .ref (r + 7) := h.2.2.2.2.2.2.2.2.2.2.1
theorem s4_4s {G : mG} {r : Nat} (h : is4 G r) : is7 G (r + 7) := h.2.2.2.2.2.2.2.2.2.2.2.1
theorem s4_4c {G : mG} {r : Nat} (h : is4 G r) : qG G (r + 8) = 160 := h.2.2.2.2.2.2.2.2.2.2.2.2
def is5 (G : mG) (r : Nat) : Prop := G.1 r = .inl 5 ∧ G.2.1 r 0 = .ref (r + 1) ∧ G.1 (r + 1) = .inr (3, 20) ∧ (∀ k : Nat, k < 20 → G.2.2 (r + 1) k = some (r + 2 + 9 * k)) ∧ (∀ k : Nat, k < 20 → is4 G (r + 2 + 9 * k))
theorem s5_0r {G : mG} {r : Nat} (h : is5 G r) : G.2.1 r 0 = .ref (r + 1) := h.2.1
theorem s5_0s {G : mG} {r : Nat} (h : is5 G r) : G.1 (r + 1) = .inr (3, 20) := h.2.2.1
theorem s5_e {G : mG} {r : Nat} (h : is5 G r) : (∀ k : Nat, k < 20 → G.2.2 (r + 1) k = some (r + 2 + 9 * k)) := h.2.2.2.1
theorem s5_m {G : mG} {r : Nat} (h : is5 G r) : (∀ k : Nat, k < 20 → is4 G (r + 2 + 9 * k)) := h.2.2.2.2
def is6 (G : mG) (r : Nat) : Prop := G.1 r = .inl 6 ∧ G.2.1 r 0 = .ref (r + 1) ∧ is7 G (r + 1) ∧ qG G (r + 2) = 1601 ∧ G.2.1 r 1 = .ref (r + 3) ∧ is7 G (r + 3) ∧ qG G (r + 4) = 1601 ∧ G.2.1 r 2 = .ref (r + 5) ∧ is7 G (r + 5) ∧ qG G (r + 6) = 1601 ∧ G.2.1 r 3 = .ref (r + 7) ∧ is7 G (r + 7) ∧ qG G (r + 8) = 1601 ∧ G.2.1 r 4 = .ref (r + 9) ∧ is7 G (r + 9) ∧ qG G (r + 10) = 1601 ∧ G.2.1 r 5 = .ref (r + 11) ∧ is7 G (r + 11) ∧ qG G (r + 12) = 33 ∧ G.2.1 r 7 = .ref (gR G r 7) ∧ is3 G (gR G r 7) ∧ G.2.1 r 9 = .ref (r + 13) ∧ is3 G (r + 13)
theorem s6_0r {G : mG} {r : Nat} (h : is6 G r) : G.2.1 r 0 = .ref (r + 1) := h.2.1
theorem s6_0s {G : mG} {r : Nat} (h : is6 G r) : is7 G (r + 1) := h.2.2.1
theorem s6_0c {G : mG} {r : Nat} (h : is6 G r) : qG G (r + 2) = 1601 := h.2.2.2.1
theorem s6_1r {G : mG} {r : Nat} (h : is6 G r) : G.2.1 r 1 = .ref (r + 3) := h.2.2.2.2.1
theorem s6_1s {G : mG} {r : Nat} (h : is6 G r) : is7 G (r + 3) := h.2.2.2.2.2.1
theorem s6_1c {G : mG} {r : Nat} (h : is6 G r) : qG G (r + 4) = 1601 := h.2.2.2.2.2.2.1
theorem s6_2r {G : mG} {r : Nat} (h : is6 G r) : G.2.1 r 2 = .ref (r + 5) := h.2.2.2.2.2.2.2.1
theorem s6_2s {G : mG} {r : Nat} (h : is6 G r) : is7 G (r + 5) := h.2.2.2.2.2.2.2.2.1
theorem s6_2c {G : mG} {r : Nat} (h : is6 G r) : qG G (r + 6) = 1601 := h.2.2.2.2.2.2.2.2.2.1
theorem s6_3r {G : mG} {r : Nat} (h : is6 G r) : G.2.1 r 3 = .ref (r + 7) := h.2.2.2.2.2.2.2.2.2.2.1
theorem s6_3s {G : mG} {r : Nat} (h : is6 G r) : is7 G (r + 7) := h.2.2.2.2.2.2.2.2.2.2.2.1
theorem s6_3c {G : mG} {r : Nat} (h : is6 G r) : qG G (r + 8) = 1601 := h.2.2.2.2.2.2.2.2.2.2.2.2.1
theorem s6_4r {G : mG} {r : Nat} (h : is6 G r) : G.2.1 r 4 = .ref (r + 9) := h.2.2.2.2.2.2.2.2.2.2.2.2.2.1
theorem s6_4s {G : mG} {r : Nat} (h : is6 G r) : is7 G (r + 9) := h.2.2.2.2.2.2.2.2.2.2.2.2.2.2.1
theorem s6_4c {G : mG} {r : Nat} (h : is6 G r) : qG G (r + 10) = 1601 := h.2.2.2.2.2.2.2.2.2.2.2.2.2.2.2.1
theorem s6_5r {G : mG} {r : Nat} (h : is6 G r) : G.2.1 r 5 = .ref (r + 11) := h.2.2.2.2.2.2.2.2.2.2.2.2.2.2.2.2.1
theorem s6_5s {G : mG} {r : Nat} (h : is6 G r) : is7 G (r + 11) := h.2.2.2.2.2.2.2.2.2.2.2.2.2.2.2.2.2.1
theorem s6_5c {G : mG} {r : Nat} (h : is6 G r) : qG G (r + 12) = 33 := h.2.2.2.2.2.2.2.2.2.2.2.2.2.2.2.2.2.2.1
theorem s6_7r {G : mG} {r : Nat} (h : is6 G r) : G.2.1 r 7 = .ref (gR G r 7) := h.2.2.2.2.2.2.2.2.2.2.2.2.2.2.2.2.2.2.2.1
theorem s6_7s {G : mG} {r : Nat} (h : is6 G r) : is3 G (gR G r 7) := h.2.2.2.2.2.2.2.2.2.2.2.2.2.2.2.2.2.2.2.2.1
theorem s6_9r {G : mG} {r : Nat} (h : is6 G r) : G.2.1 r 9 = .ref (r + 13) := h.2.2.2.2.2.2.2.2.2.2.2.2.2.2.2.2.2.2.2.2.2.1
theorem s6_9s {G : mG} {r : Nat} (h : is6 G r) : is3 G (r + 13) := h.2.2.2.2.2.2.2.2.2.2.2.2.2.2.2.2.2.2.2.2.2.2
def is8 (G : mG) (r : Nat) : Prop := G.1 r = .inl 8 ∧ True
def is9 (G : mG) (r : Nat) : Prop := G.1 r = .inl 9 ∧ G.2.1 r 0 = .ref (r + 1) ∧ is7 G (r + 1) ∧ qG G (r + 2) = 1600 ∧ G.2.1 r 1 = .ref (r + 3) ∧ is7 G (r + 3) ∧ qG G (r + 4) = 123 ∧ G.2.1 r 2 = .ref (r + 5) ∧ is7 G (r + 5) ∧ qG G (r + 6) = 6 ∧ G.2.1 r 3 = .ref (r + 7) ∧ is7 G (r + 7) ∧ qG G (r + 8) = 60 ∧ G.2.1 r 4 = .ref (r + 9) ∧ is6 G (r + 9) ∧ G.2.1 r 5 = .ref (r + 27) ∧ is2 G (r + 27) ∧ G.2.1 r 6 = .ref (r + 38) ∧ is0 G (r + 38) ∧ G.2.1 r 7 = .ref (r + 45) ∧ is5 G (r + 45) ∧ G.2.1 r 8 = .ref (r + 227) ∧ is4 G (r + 227) ∧ G.2.1 r 9 = .ref (r + 236) ∧ is4 G (r + 236) ∧ G.2.1 r 10 = .ref (gR G r 10) ∧ is1 G (gR G r 10) ∧ G.2.1 r 11 = .ref (gR G r 11) ∧ is1 G (gR G r 11)
theorem s9_0r {G : mG} {r : Nat} (h : is9 G r) : G.2.1 r 0 = .ref (r + 1) := h.2.1
theorem s9_0s {G : mG} {r : Nat} (h : is9 G r) : is7 G (r + 1) := h.2.2.1
theorem s9_0c {G : mG} {r : Nat} (h : is9 G r) : qG G (r + 2) = 1600 := h.2.2.2.1
theorem s9_1r {G : mG} {r : Nat} (h : is9 G r) : G.2.1 r 1 = .ref (r + 3) := h.2.2.2.2.1
theorem s9_1s {G : mG} {r : Nat} (h : is9 G r) : is7 G (r + 3) := h.2.2.2.2.2.1
theorem s9_1c {G : mG} {r : Nat} (h : is9 G r) : qG G (r + 4) = 123 := h.2.2.2.2.2.2.1
theorem s9_2r {G : mG} {r : Nat} (h : is9 G r) : G.2.1 r 2 = .ref (r + 5) := h.2.2.2.2.2.2.2.1
theorem s9_2s {G : mG} {r : Nat} (h : is9 G r) : is7 G (r + 5) := h.2.2.2.2.2.2.2.2.1
theorem s9_2c {G : mG} {r : Nat} (h : is9 G r) : qG G (r + 6) = 6 := h.2.2.2.2.2.2.2.2.2.1
theorem s9_3r {G : mG} {r : Nat} (h : is9 G r) : G.2.1 r 3 = .ref (r + 7) := h.2.2.2.2.2.2.2.2.2.2.1
theorem s9_3s {G : mG} {r : Nat} (h : is9 G r) : is7 G (r + 7) := h.2.2.2.2.2.2.2.2.2.2.2.1
theorem s9_3c {G : mG} {r : Nat} (h : is9 G r) : qG G (r + 8) = 60 := h.2.2.2.2.2.2.2.2.2.2.2.2.1
theorem s9_4r {G : mG} {r : Nat} (h : is9 G r) : G.2.1 r 4 = .ref (r + 9) := h.2.2.2.2.2.2.2.2.2.2.2.2.2.1
theorem s9_4s {G : mG} {r : Nat} (h : is9 G r) : is6 G (r + 9) := h.2.2.2.2.2.2.2.2.2.2.2.2.2.2.1
theorem s9_5r {G : mG} {r : Nat} (h : is9 G r) : G.2.1 r 5 = .ref (r + 27) := h.2.2.2.2.2.2.2.2.2.2.2.2.2.2.2.1
theorem s9_5s {G : mG} {r : Nat} (h : is9 G r) : is2 G (r + 27) := h.2.2.2.2.2.2.2.2.2.2.2.2.2.2.2.2.1
theorem s9_6r {G : mG} {r : Nat} (h : is9 G r) : G.2.1 r 6 = .ref (r + 38) := h.2.2.2.2.2.2.2.2.2.2.2.2.2.2.2.2.2.1
theorem s9_6s {G : mG} {r : Nat} (h : is9 G r) : is0 G (r + 38) := h.2.2.2.2.2.2.2.2.2.2.2.2.2.2.2.2.2.2.1
theorem s9_7r {G : mG} {r : Nat} (h : is9 G r) : G.2.1 r 7 = .ref (r + 45) := h.2.2.2.2.2.2.2.2.2.2.2.2.2.2.2.2.2.2.2.1
theorem s9_7s {G : mG} {r : Nat} (h : is9 G r) : is5 G (r + 45) := h.2.2.2.2.2.2.2.2.2.2.2.2.2.2.2.2.2.2.2.2.1
theorem s9_8r {G : mG} {r : Nat} (h : is9 G r) : G.2.1 r 8 = .ref (r + 227) := h.2.2.2.2.2.2.2.2.2.2.2.2.2.2.2.2.2.2.2.2.2.1
theorem s9_8s {G : mG} {r : Nat} (h : is9 G r) : is4 G (r + 227) := h.2.2.2.2.2.2.2.2.2.2.2.2.2.2.2.2.2.2.2.2.2.2.1
theorem s9_9r {G : mG} {r : Nat} (h : is9 G r) : G.2.1 r 9 = .ref (r + 236) := h.2.2.2.2.2.2.2.2.2.2.2.2.2.2.2.2.2.2.2.2.2.2.2.1
theorem s9_9s {G : mG} {r : Nat} (h : is9 G r) : is4 G (r + 236) := h.2.2.2.2.2.2.2.2.2.2.2.2.2.2.2.2.2.2.2.2.2.2.2.2.1
theorem s9_10r {G : mG} {r : Nat} (h : is9 G r) : G.2.1 r 10 = .ref (gR G r 10) := h.2.2.2.2.2.2.2.2.2.2.2.2.2.2.2.2.2.2.2.2.2.2.2.2.2.1
theorem s9_10s {G : mG} {r : Nat} (h : is9 G r) : is1 G (gR G r 10) := h.2.2.2.2.2.2.2.2.2.2.2.2.2.2.2.2.2.2.2.2.2.2.2.2.2.2.1
theorem s9_11r {G : mG} {r : Nat} (h : is9 G r) : G.2.1 r 11 = .ref (gR G r 11) := h.2.2.2.2.2.2.2.2.2.2.2.2.2.2.2.2.2.2.2.2.2.2.2.2.2.2.2.1
theorem s9_11s {G : mG} {r : Nat} (h : is9 G r) : is1 G (gR G r 11) := h.2.2.2.2.2.2.2.2.2.2.2.2.2.2.2.2.2.2.2.2.2.2.2.2.2.2.2.2
def is10 (G : mG) (r : Nat) : Prop := G.1 r = .inl 10 ∧ G.2.1 r 0 = .ref (r + 1) ∧ G.1 (r + 1) = .inr (0, 1600) ∧ G.2.1 r 9 = .ref (r + 2) ∧ G.1 (r + 2) = .inr (0, 6) ∧ G.2.1 r 11 = .ref (r + 3) ∧ G.1 (r + 3) = .inr (1, 6) ∧ G.2.1 r 12 = .ref (r + 4) ∧ G.1 (r + 4) = .inr (1, 4) ∧ G.2.1 r 13 = .ref (r + 5) ∧ G.1 (r + 5) = .inr (1, 4) ∧ G.2.1 r 14 = .ref (r + 6) ∧ G.1 (r + 6) = .inr (1, 4) ∧ G.2.1 r 15 = .ref (r + 7) ∧ G.1 (r + 7) = .inr (1, 4) ∧ G.2.1 r 16 = .ref (r + 8) ∧ G.1 (r + 8) = .inr (1, 2) ∧ G.2.1 r 17 = .ref (r + 9) ∧ G.1 (r + 9) = .inr (1, 6) ∧ G.2.1 r 18 = .ref (r + 10) ∧ G.1 (r + 10) = .inr (1, 5) ∧ G.2.1 r 19 = .ref (r + 11) ∧ G.1 (r + 11) = .inr (1, 5) ∧ G.2.1 r 20 = .ref (r + 12) ∧ G.1 (r + 12) = .inr (1, 6) ∧ G.2.1 r 21 = .ref (r + 13) ∧ G.1 (r + 13) = .inr (1, 3) ∧ G.2.1 r 22 = .ref (r + 14) ∧ G.1 (r + 14) = .inr (1, 6) ∧ G.2.1 r 23 = .ref (r + 15) ∧ G.1 (r + 15) = .inr (1, 5) ∧ G.2.1 r 24 = .ref (r + 16) ∧ G.1 (r + 16) = .inr (1, 3) ∧ G.2.1 r 25 = .ref (r + 17) ∧ G.1 (r + 17) = .inr (1, 6) ∧ G.2.1 r 26 = .ref (r + 18) ∧ G.1 (r + 18) = .inr (1, 4) ∧ G.2.1 r 27 = .ref (r + 19) ∧ G.1 (r + 19) = .inr (1, 3) ∧ G.2.1 r 28 = .ref (r + 20) ∧ G.1 (r + 20) = .inr (1, 6) ∧ G.2.1 r 29 = .ref (r + 21) ∧ G.1 (r + 21) = .inr (1, 2) ∧ G.2.1 r 30 = .ref (r + 22) ∧ G.1 (r + 22) = .inr (1, 3) ∧ G.2.1 r 31 = .ref (r + 23) ∧ G.1 (r + 23) = .inr (1, 3) ∧ G.2.1 r 32 = .ref (r + 24) ∧ G.1 (r + 24) = .inr (1, 3) ∧ G.2.1 r 33 = .ref (r + 25) ∧ G.1 (r + 25) = .inr (1, 3) ∧ G.2.1 r 34 = .ref (r + 26) ∧ G.1 (r + 26) = .inr (1, 3) ∧ G.2.1 r 36 = .ref (r + 27) ∧ G.1 (r + 27) = .inr (0, 6) ∧ G.2.1 r 37 = .ref (r + 28) ∧ G.1 (r + 28) = .inr (2, 40) ∧ G.2.1 r 38 = .ref (r + 29) ∧ G.1 (r + 29) = .inr (0, 40) ∧ G.2.1 r 39 = .ref (r + 30) ∧ G.1 (r + 30) = .inr (0, 144) ∧ G.2.1 r 40 = .ref (r + 31) ∧ G.1 (r + 31) = .inr (0, 20) ∧ G.2.1 r 41 = .ref (r + 32) ∧ G.1 (r + 32) = .inr (0, 20) ∧ G.2.1 r 42 = .ref (r + 33) ∧ G.1 (r + 33) = .inr (0, 200) ∧ G.2.1 r 43 = .ref (r + 34) ∧ G.1 (r + 34) = .inr (0, 8) ∧ G.2.1 r 44 = .ref (r + 35) ∧ G.1 (r + 35) = .inr (0, 8) ∧ G.2.1 r 45 = .ref (r + 36) ∧ G.1 (r + 36) = .inr (0, 3200) ∧ G.2.1 r 49 = .ref (r + 37) ∧ G.1 (r + 37) = .inr (0, 282) ∧ G.2.1 r 50 = .ref (r + 38) ∧ G.1 (r + 38) = .inr (0, 282) ∧ G.2.1 r 59 = .ref (r + 39) ∧ G.1 (r + 39) = .inr (0, 3) ∧ G.2.1 r 60 = .ref (r + 40) ∧ G.1 (r + 40) = .inr (0, 10) ∧ G.2.1 r 63 = .ref (r + 41) ∧ G.1 (r + 41) = .inr (0, 10) ∧ G.2.1 r 66 = .ref (r + 42) ∧ G.1 (r + 42) = .inr (0, 11264) ∧ G.2.1 r 67 = .ref (r + 43) ∧ G.1 (r + 43) = .inr (0, 100) ∧ G.2.1 r 68 = .ref (r + 44) ∧ G.1 (r + 44) = .inr (0, 5640) ∧ G.2.1 r 74 = .ref (r + 45) ∧ G.1 (r + 45) = .inr (0, 60) ∧ G.2.1 r 75 = .ref (r + 46) ∧ G.1 (r + 46) = .inr (1, 5) ∧ G.2.1 r 76 = .ref (r + 47) ∧ G.1 (r + 47) = .inr (1, 4) ∧ G.2.1 r 77 = .ref (r + 48) ∧ G.1 (r + 48) = .inr (1, 5) ∧ G.2.1 r 78 = .ref (r + 49) ∧ G.1 (r + 49) = .inr (1, 5) ∧ G.2.1 r 79 = .ref (r + 50) ∧ G.1 (r + 50) = .inr (1, 4) ∧ G.2.1 r 80 = .ref (r + 51) ∧ G.1 (r + 51) = .inr (1, 5) ∧ G.2.1 r 81 = .ref (r + 52) ∧ G.1 (r + 52) = .inr (1, 3) ∧ G.2.1 r 82 = .ref (r + 53) ∧ G.1 (r + 53) = .inr (1, 3) ∧ G.2.1 r 83 = .ref (r + 54) ∧ G.1 (r + 54) = .inr (1, 2) ∧ G.2.1 r 84 = .ref (r + 55) ∧ G.1 (r + 55) = .inr (1, 3) ∧ G.2.1 r 85 = .ref (r + 56) ∧ G.1 (r + 56) = .inr (1, 3) ∧ G.2.1 r 86 = .ref (r + 57) ∧ G.1 (r + 57) = .inr (1, 3) ∧ G.2.1 r 87 = .ref (r + 58) ∧ G.1 (r + 58) = .inr (1, 5) ∧ G.2.1 r 88 = .ref (r + 59) ∧ G.1 (r + 59) = .inr (1, 3) ∧ G.2.1 r 89 = .ref (r + 60) ∧ G.1 (r + 60) = .inr (1, 6) ∧ G.2.1 r 90 = .ref (r + 61) ∧ G.1 (r + 61) = .inr (1, 4) ∧ G.2.1 r 91 = .ref (r + 62) ∧ G.1 (r + 62) = .inr (1, 4) ∧ G.2.1 r 92 = .ref (r + 63) ∧ G.1 (r + 63) = .inr (1, 3) ∧ G.2.1 r 93 = .ref (r + 64) ∧ G.1 (r + 64) = .inr (1, 6) ∧ G.2.1 r 94 = .ref (r + 65) ∧ G.1 (r + 65) = .inr (1, 4) ∧ G.2.1 r 95 = .ref (r + 66) ∧ G.1 (r + 66) = .inr (1, 4) ∧ G.2.1 r 96 = .ref (r + 67) ∧ G.1 (r + 67) = .inr (1, 5) ∧ G.2.1 r 97 = .ref (r + 68) ∧ G.1 (r + 68) = .inr (0, 1700) ∧ G.2.1 r 99 = .ref (r + 69) ∧ G.1 (r + 69) = .inr (0, 1700) ∧ G.2.1 r 103 = .ref (r + 70) ∧ G.1 (r + 70) = .inr (2, 1700) ∧ G.2.1 r 107 = .ref (r + 71) ∧ G.1 (r + 71) = .inr (0, 123)
theorem s10_0r {G : mG} {r : Nat} (h : is10 G r) : G.2.1 r 0 = .ref (r + 1) := h.2.1
theorem s10_0s {G : mG} {r : Nat} (h : is10 G r) : G.1 (r + 1) = .inr (0, 1600) := h.2.2.1
theorem s10_9r {G : mG} {r : Nat} (h : is10 G r) : G.2.1 r 9 = .ref (r + 2) := h.2.2.2.1
theorem s10_9s {G : mG} {r : Nat} (h : is10 G r) : G.1 (r + 2) = .inr (0, 6) := h.2.2.2.2.1
theorem s10_11r {G : mG} {r : Nat} (h : is10 G r) : G.2.1 r 11 = .ref (r + 3) := h.2.2.2.2.2.1
theorem s10_11s {G : mG} {r : Nat} (h : is10 G r) : G.1 (r + 3) = .inr (1, 6) := h.2.2.2.2.2.2.1
theorem s10_12r {G : mG} {r : Nat} (h : is10 G r) : G.2.1 r 12 = .ref (r + 4) := h.2.2.2.2.2.2.2.1
theorem s10_12s {G : mG} {r : Nat} (h : is10 G r) : G.1 (r + 4) = .inr (1, 4) := h.2.2.2.2.2.2.2.2.1
theorem s10_13r {G : mG} {r : Nat} (h : is10 G r) : G.2.1 r 13 = .ref (r + 5) := h.2.2.2.2.2.2.2.2.2.1
theorem s10_13s {G : mG} {r : Nat} (h : is10 G r) : G.1 (r + 5) = .inr (1, 4) := h.2.2.2.2.2.2.2.2.2.2.1
theorem s10_14r {G : mG} {r : Nat} (h : is10 G r) : G.2.1 r 14 = .ref (r + 6) := h.2.2.2.2.2.2.2.2.2.2.2.1
theorem s10_14s {G : mG} {r : Nat} (h : is10 G r) : G.1 (r + 6) = .inr (1, 4) := h.2.2.2.2.2.2.2.2.2.2.2.2.1
theorem s10_15r {G : mG} {r : Nat} (h : is10 G r) : G.2.1 r 15 = .ref (r + 7) := h.2.2.2.2.2.2.2.2.2.2.2.2.2.1
theorem s10_15s {G : mG} {r : Nat} (h : is10 G r) : G.1 (r + 7) = .inr (1, 4) := h.2.2.2.2.2.2.2.2.2.2.2.2.2.2.1
theorem s10_16r {G : mG} {r : Nat} (h : is10 G r) : G.2.1 r 16 = .ref (r + 8) := h.2.2.2.2.2.2.2.2.2.2.2.2.2.2.2.1
theorem s10_16s {G : mG} {r : Nat} (h : is10 G r) : G.1 (r + 8) = .inr (1, 2) := h.2.2.2.2.2.2.2.2.2.2.2.2.2.2.2.2.1
theorem s10_17r {G : mG} {r : Nat} (h : is10 G r) : G.2.1 r 17 = .ref (r + 9) := h.2.2.2.2.2.2.2.2.2.2.2.2.2.2.2.2.2.1
theorem s10_17s {G : mG} {r : Nat} (h : is10 G r) : G.1 (r + 9) = .inr (1, 6) := h.2.2.2.2.2.2.2.2.2.2.2.2.2.2.2.2.2.2.1
theorem s10_18r {G : mG} {r : Nat} (h : is10 G r) : G.2.1 r 18 = .ref (r + 10) := h.2.2.2.2.2.2.2.2.2.2.2.2.2.2.2.2.2.2.2.1
theorem s10_18s {G : mG} {r : Nat} (h : is10 G r) : G.1 (r + 10) = .inr (1, 5) := h.2.2.2.2.2.2.2.2.2.2.2.2.2.2.2.2.2.2.2.2.1
theorem s10_19r {G : mG} {r : Nat} (h : is10 G r) : G.2.1 r 19 = .ref (r + 11) := h.2.2.2.2.2.2.2.2.2.2.2.2.2.2.2.2.2.2.2.2.2.1
theorem s10_19s {G : mG} {r : Nat} (h : is10 G r) : G.1 (r + 11) = .inr (1, 5) := h.2.2.2.2.2.2.2.2.2.2.2.2.2.2.2.2.2.2.2.2.2.2.1
theorem s10_20r {G : mG} {r : Nat} (h : is10 G r) : G.2.1 r 20 = .ref (r + 12) := h.2.2.2.2.2.2.2.2.2.2.2.2.2.2.2.2.2.2.2.2.2.2.2.1
theorem s10_20s {G : mG} {r : Nat} (h : is10 G r) : G.1 (r + 12) = .inr (1, 6) := h.2.2.2.2.2.2.2.2.2.2.2.2.2.2.2.2.2.2.2.2.2.2.2.2.1
theorem s10_21r {G : mG} {r : Nat} (h : is10 G r) : G.2.1 r 21 = .ref (r + 13) := h.2.2.2.2.2.2.2.2.2.2.2.2.2.2.2.2.2.2.2.2.2.2.2.2.2.1
theorem s10_21s {G : mG} {r : Nat} (h : is10 G r) : G.1 (r + 13) = .inr (1, 3) := h.2.2.2.2.2.2.2.2.2.2.2.2.2.2.2.2.2.2.2.2.2.2.2.2.2.2.1
theorem s10_22r {G : mG} {r : Nat} (h : is10 G r) : G.2.1 r 22 = .ref (r + 14) := h.2.2.2.2.2.2.2.2.2.2.2.2.2.2.2.2.2.2.2.2.2.2.2.2.2.2.2.1
theorem s10_22s {G : mG} {r : Nat} (h : is10 G r) : G.1 (r + 14) = .inr (1, 6) := h.2.2.2.2.2.2.2.2.2.2.2.2.2.2.2.2.2.2.2.2.2.2.2.2.2.2.2.2.1
theorem s10_23r {G : mG} {r : Nat} (h : is10 G r) : G.2.1 r 23 = .ref (r + 15) := h.2.2.2.2.2.2.2.2.2.2.2.2.2.2.2.2.2.2.2.2.2.2.2.2.2.2.2.2.2.1
theorem s10_23s {G : mG} {r : Nat} (h : is10 G r) : G.1 (r + 15) = .inr (1, 5) := h.2.2.2.2.2.2.2.2.2.2.2.2.2.2.2.2.2.2.2.2.2.2.2.2.2.2.2.2.2.2.1
theorem s10_24r {G : mG} {r : Nat} (h : is10 G r) : G.2.1 r 24 = .ref (r + 16) := h.2.2.2.2.2.2.2.2.2.2.2.2.2.2.2.2.2.2.2.2.2.2.2.2.2.2.2.2.2.2.2.1
theorem s10_24s {G : mG} {r : Nat} (h : is10 G r) : G.1 (r + 16) = .inr (1, 3) := h.2.2.2.2.2.2.2.2.2.2.2.2.2.2.2.2.2.2.2.2.2.2.2.2.2.2.2.2.2.2.2.2.1
theorem s10_25r {G : mG} {r : Nat} (h : is10 G r) : G.2.1 r 25 = .ref (r + 17) := h.2.2.2.2.2.2.2.2.2.2.2.2.2.2.2.2.2.2.2.2.2.2.2.2.2.2.2.2.2.2.2.2.2.1
theorem s10_25s {G : mG} {r : Nat} (h : is10 G r) : G.1 (r + 17) = .inr (1, 6) := h.2.2.2.2.2.2.2.2.2.2.2.2.2.2.2.2.2.2.2.2.2.2.2.2.2.2.2.2.2.2.2.2.2.2.1
theorem s10_26r {G : mG} {r : Nat} (h : is10 G r) : G.2.1 r 26 = .ref (r + 18) := h.2.2.2.2.2.2.2.2.2.2.2.2.2.2.2.2.2.2.2.2.2.2.2.2.2.2.2.2.2.2.2.2.2.2.2.1
theorem s10_26s {G : mG} {r : Nat} (h : is10 G r) : G.1 (r + 18) = .inr (1, 4) := h.2.2.2.2.2.2.2.2.2.2.2.2.2.2.2.2.2.2.2.2.2.2.2.2.2.2.2.2.2.2.2.2.2.2.2.2.1
theorem s10_27r {G : mG} {r : Nat} (h : is10 G r) : G.2.1 r 27 = .ref (r + 19) := h.2.2.2.2.2.2.2.2.2.2.2.2.2.2.2.2.2.2.2.2.2.2.2.2.2.2.2.2.2.2.2.2.2.2.2.2.2.1
theorem s10_27s {G : mG} {r : Nat} (h : is10 G r) : G.1 (r + 19) = .inr (1, 3) := h.2.2.2.2.2.2.2.2.2.2.2.2.2.2.2.2.2.2.2.2.2.2.2.2.2.2.2.2.2.2.2.2.2.2.2.2.2.2.1
theorem s10_28r {G : mG} {r : Nat} (h : is10 G r) : G.2.1 r 28 = .ref (r + 20) := h.2.2.2.2.2.2.2.2.2.2.2.2.2.2.2.2.2.2.2.2.2.2.2.2.2.2.2.2.2.2.2.2.2.2.2.2.2.2.2.1
theorem s10_28s {G : mG} {r : Nat} (h : is10 G r) : G.1 (r + 20) = .inr (1, 6) := h.2.2.2.2.2.2.2.2.2.2.2.2.2.2.2.2.2.2.2.2.2.2.2.2.2.2.2.2.2.2.2.2.2.2.2.2.2.2.2.2.1
theorem s10_29r {G : mG} {r : Nat} (h : is10 G r) : G.2.1 r 29 = .ref (r + 21) := h.2.2.2.2.2.2.2.2.2.2.2.2.2.2.2.2.2.2.2.2.2.2.2.2.2.2.2.2.2.2.2.2.2.2.2.2.2.2.2.2.2.1
theorem s10_29s {G : mG} {r : Nat} (h : is10 G r) : G.1 (r + 21) = .inr (1, 2) := h.2.2.2.2.2.2.2.2.2.2.2.2.2.2.2.2.2.2.2.2.2.2.2.2.2.2.2.2.2.2.2.2.2.2.2.2.2.2.2.2.2.2.1
theorem s10_30r {G : mG} {r : Nat} (h : is10 G r) : G.2.1 r 30 = .ref (r + 22) := h.2.2.2.2.2.2.2.2.2.2.2.2.2.2.2.2.2.2.2.2.2.2.2.2.2.2.2.2.2.2.2.2.2.2.2.2.2.2.2.2.2.2.2.1
theorem s10_30s {G : mG} {r : Nat} (h : is10 G r) : G.1 (r + 22) = .inr (1, 3) := h.2.2.2.2.2.2.2.2.2.2.2.2.2.2.2.2.2.2.2.2.2.2.2.2.2.2.2.2.2.2.2.2.2.2.2.2.2.2.2.2.2.2.2.2.1
theorem s10_31r {G : mG} {r : Nat} (h : is10 G r) : G.2.1 r 31 = .ref (r + 23) := h.2.2.2.2.2.2.2.2.2.2.2.2.2.2.2.2.2.2.2.2.2.2.2.2.2.2.2.2.2.2.2.2.2.2.2.2.2.2.2.2.2.2.2.2.2.1
theorem s10_31s {G : mG} {r : Nat} (h : is10 G r) : G.1 (r + 23) = .inr (1, 3) := h.2.2.2.2.2.2.2.2.2.2.2.2.2.2.2.2.2.2.2.2.2.2.2.2.2.2.2.2.2.2.2.2.2.2.2.2.2.2.2.2.2.2.2.2.2.2.1
theorem s10_32r {G : mG} {r : Nat} (h : is10 G r) : G.2.1 r 32 = .ref (r + 24) := h.2.2.2.2.2.2.2.2.2.2.2.2.2.2.2.2.2.2.2.2.2.2.2.2.2.2.2.2.2.2.2.2.2.2.2.2.2.2.2.2.2.2.2.2.2.2.2.1
theorem s10_32s {G : mG} {r : Nat} (h : is10 G r) : G.1 (r + 24) = .inr (1, 3) := h.2.2.2.2.2.2.2.2.2.2.2.2.2.2.2.2.2.2.2.2.2.2.2.2.2.2.2.2.2.2.2.2.2.2.2.2.2.2.2.2.2.2.2.2.2.2.2.2.1
theorem s10_33r {G : mG} {r : Nat} (h : is10 G r) : G.2.1 r 33 = .ref (r + 25) := h.2.2.2.2.2.2.2.2.2.2.2.2.2.2.2.2.2.2.2.2.2.2.2.2.2.2.2.2.2.2.2.2.2.2.2.2.2.2.2.2.2.2.2.2.2.2.2.2.2.1
theorem s10_33s {G : mG} {r : Nat} (h : is10 G r) : G.1 (r + 25) = .inr (1, 3) := h.2.2.2.2.2.2.2.2.2.2.2.2.2.2.2.2.2.2.2.2.2.2.2.2.2.2.2.2.2.2.2.2.2.2.2.2.2.2.2.2.2.2.2.2.2.2.2.2.2.2.1
theorem s10_34r {G : mG} {r : Nat} (h : is10 G r) : G.2.1 r 34 = .ref (r + 26) := h.2.2.2.2.2.2.2.2.2.2.2.2.2.2.2.2.2.2.2.2.2.2.2.2.2.2.2.2.2.2.2.2.2.2.2.2.2.2.2.2.2.2.2.2.2.2.2.2.2.2.2.1
theorem s10_34s {G : mG} {r : Nat} (h : is10 G r) : G.1 (r + 26) = .inr (1, 3) := h.2.2.2.2.2.2.2.2.2.2.2.2.2.2.2.2.2.2.2.2.2.2.2.2.2.2.2.2.2.2.2.2.2.2.2.2.2.2.2.2.2.2.2.2.2.2.2.2.2.2.2.2.1
theorem s10_36r {G : mG} {r : Nat} (h : is10 G r) : G.2.1 r 36 = .ref (r + 27) := h.2.2.2.2.2.2.2.2.2.2.2.2.2.2.2.2.2.2.2.2.2.2.2.2.2.2.2.2.2.2.2.2.2.2.2.2.2.2.2.2.2.2.2.2.2.2.2.2.2.2.2.2.2.1
theorem s10_36s {G : mG} {r : Nat} (h : is10 G r) : G.1 (r + 27) = .inr (0, 6) := h.2.2.2.2.2.2.2.2.2.2.2.2.2.2.2.2.2.2.2.2.2.2.2.2.2.2.2.2.2.2.2.2.2.2.2.2.2.2.2.2.2.2.2.2.2.2.2.2.2.2.2.2.2.2.1
theorem s10_37r {G : mG} {r : Nat} (h : is10 G r) : G.2.1 r 37 = .ref (r + 28) := h.2.2.2.2.2.2.2.2.2.2.2.2.2.2.2.2.2.2.2.2.2.2.2.2.2.2.2.2.2.2.2.2.2.2.2.2.2.2.2.2.2.2.2.2.2.2.2.2.2.2.2.2.2.2.2.1
theorem s10_37s {G : mG} {r : Nat} (h : is10 G r) : G.1 (r + 28) = .inr (2, 40) := h.2.2.2.2.2.2.2.2.2.2.2.2.2.2.2.2.2.2.2.2.2.2.2.2.2.2.2.2.2.2.2.2.2.2.2.2.2.2.2.2.2.2.2.2.2.2.2.2.2.2.2.2.2.2.2.2.1
theorem s10_38r {G : mG} {r : Nat} (h : is10 G r) : G.2.1 r 38 = .ref (r + 29) := h.2.2.2.2.2.2.2.2.2.2.2.2.2.2.2.2.2.2.2.2.2.2.2.2.2.2.2.2.2.2.2.2.2.2.2.2.2.2.2.2.2.2.2.2.2.2.2.2.2.2.2.2.2.2.2.2.2.1
theorem s10_38s {G : mG} {r : Nat} (h : is10 G r) : G.1 (r + 29) = .inr (0, 40) := h.2.2.2.2.2.2.2.2.2.2.2.2.2.2.2.2.2.2.2.2.2.2.2.2.2.2.2.2.2.2.2.2.2.2.2.2.2.2.2.2.2.2.2.2.2.2.2.2.2.2.2.2.2.2.2.2.2.2.1
theorem s10_39r {G : mG} {r : Nat} (h : is10 G r) : G.2.1 r 39 = .ref (r + 30) := h.2.2.2.2.2.2.2.2.2.2.2.2.2.2.2.2.2.2.2.2.2.2.2.2.2.2.2.2.2.2.2.2.2.2.2.2.2.2.2.2.2.2.2.2.2.2.2.2.2.2.2.2.2.2.2.2.2.2.2.1
theorem s10_39s {G : mG} {r : Nat} (h : is10 G r) : G.1 (r + 30) = .inr (0, 144) := h.2.2.2.2.2.2.2.2.2.2.2.2.2.2.2.2.2.2.2.2.2.2.2.2.2.2.2.2.2.2.2.2.2.2.2.2.2.2.2.2.2.2.2.2.2.2.2.2.2.2.2.2.2.2.2.2.2.2.2.2.1
theorem s10_40r {G : mG} {r : Nat} (h : is10 G r) : G.2.1 r 40 = .ref (r + 31) := h.2.2.2.2.2.2.2.2.2.2.2.2.2.2.2.2.2.2.2.2.2.2.2.2.2.2.2.2.2.2.2.2.2.2.2.2.2.2.2.2.2.2.2.2.2.2.2.2.2.2.2.2.2.2.2.2.2.2.2.2.2.1
theorem s10_40s {G : mG} {r : Nat} (h : is10 G r) : G.1 (r + 31) = .inr (0, 20) := h.2.2.2.2.2.2.2.2.2.2.2.2.2.2.2.2.2.2.2.2.2.2.2.2.2.2.2.2.2.2.2.2.2.2.2.2.2.2.2.2.2.2.2.2.2.2.2.2.2.2.2.2.2.2.2.2.2.2.2.2.2.2.1
theorem s10_41r {G : mG} {r : Nat} (h : is10 G r) : G.2.1 r 41 = .ref (r + 32) := h.2.2.2.2.2.2.2.2.2.2.2.2.2.2.2.2.2.2.2.2.2.2.2.2.2.2.2.2.2.2.2.2.2.2.2.2.2.2.2.2.2.2.2.2.2.2.2.2.2.2.2.2.2.2.2.2.2.2.2.2.2.2.2.1
theorem s10_41s {G : mG} {r : Nat} (h : is10 G r) : G.1 (r + 32) = .inr (0, 20) := h.2.2.2.2.2.2.2.2.2.2.2.2.2.2.2.2.2.2.2.2.2.2.2.2.2.2.2.2.2.2.2.2.2.2.2.2.2.2.2.2.2.2.2.2.2.2.2.2.2.2.2.2.2.2.2.2.2.2.2.2.2.2.2.2.1
theorem s10_42r {G : mG} {r : Nat} (h : is10 G r) : G.2.1 r 42 = .ref (r + 33) := h.2.2.2.2.2.2.2.2.2.2.2.2.2.2.2.2.2.2.2.2.2.2.2.2.2.2.2.2.2.2.2.2.2.2.2.2.2.2.2.2.2.2.2.2.2.2.2.2.2.2.2.2.2.2.2.2.2.2.2.2.2.2.2.2.2.1
theorem s10_42s {G : mG} {r : Nat} (h : is10 G r) : G.1 (r + 33) = .inr (0, 200) := h.2.2.2.2.2.2.2.2.2.2.2.2.2.2.2.2.2.2.2.2.2.2.2.2.2.2.2.2.2.2.2.2.2.2.2.2.2.2.2.2.2.2.2.2.2.2.2.2.2.2.2.2.2.2.2.2.2.2.2.2.2.2.2.2.2.2.1
theorem s10_43r {G : mG} {r : Nat} (h : is10 G r) : G.2.1 r 43 = .ref (r + 34) := h.2.2.2.2.2.2.2.2.2.2.2.2.2.2.2.2.2.2.2.2.2.2.2.2.2.2.2.2.2.2.2.2.2.2.2.2.2.2.2.2.2.2.2.2.2.2.2.2.2.2.2.2.2.2.2.2.2.2.2.2.2.2.2.2.2.2.2.1
theorem s10_43s {G : mG} {r : Nat} (h : is10 G r) : G.1 (r + 34) = .inr (0, 8) := h.2.2.2.2.2.2.2.2.2.2.2.2.2.2.2.2.2.2.2.2.2.2.2.2.2.2.2.2.2.2.2.2.2.2.2.2.2.2.2.2.2.2.2.2.2.2.2.2.2.2.2.2.2.2.2.2.2.2.2.2.2.2.2.2.2.2.2.2.1
theorem s10_44r {G : mG} {r : Nat} (h : is10 G r) : G.2.1 r 44 = .ref (r + 35) := h.2.2.2.2.2.2.2.2.2.2.2.2.2.2.2.2.2.2.2.2.2.2.2.2.2.2.2.2.2.2.2.2.2.2.2.2.2.2.2.2.2.2.2.2.2.2.2.2.2.2.2.2.2.2.2.2.2.2.2.2.2.2.2.2.2.2.2.2.2.1
theorem s10_44s {G : mG} {r : Nat} (h : is10 G r) : G.1 (r + 35) = .inr (0, 8) := h.2.2.2.2.2.2.2.2.2.2.2.2.2.2.2.2.2.2.2.2.2.2.2.2.2.2.2.2.2.2.2.2.2.2.2.2.2.2.2.2.2.2.2.2.2.2.2.2.2.2.2.2.2.2.2.2.2.2.2.2.2.2.2.2.2.2.2.2.2.2.1
theorem s10_45r {G : mG} {r : Nat} (h : is10 G r) : G.2.1 r 45 = .ref (r + 36) := h.2.2.2.2.2.2.2.2.2.2.2.2.2.2.2.2.2.2.2.2.2.2.2.2.2.2.2.2.2.2.2.2.2.2.2.2.2.2.2.2.2.2.2.2.2.2.2.2.2.2.2.2.2.2.2.2.2.2.2.2.2.2.2.2.2.2.2.2.2.2.2.1
theorem s10_45s {G : mG} {r : Nat} (h : is10 G r) : G.1 (r + 36) = .inr (0, 3200) := h.2.2.2.2.2.2.2.2.2.2.2.2.2.2.2.2.2.2.2.2.2.2.2.2.2.2.2.2.2.2.2.2.2.2.2.2.2.2.2.2.2.2.2.2.2.2.2.2.2.2.2.2.2.2.2.2.2.2.2.2.2.2.2.2.2.2.2.2.2.2.2.2.1
theorem s10_49r {G : mG} {r : Nat} (h : is10 G r) : G.2.1 r 49 = .ref (r + 37) := h.2.2.2.2.2.2.2.2.2.2.2.2.2.2.2.2.2.2.2.2.2.2.2.2.2.2.2.2.2.2.2.2.2.2.2.2.2.2.2.2.2.2.2.2.2.2.2.2.2.2.2.2.2.2.2.2.2.2.2.2.2.2.2.2.2.2.2.2.2.2.2.2.2.1
theorem s10_49s {G : mG} {r : Nat} (h : is10 G r) : G.1 (r + 37) = .inr (0, 282) := h.2.2.2.2.2.2.2.2.2.2.2.2.2.2.2.2.2.2.2.2.2.2.2.2.2.2.2.2.2.2.2.2.2.2.2.2.2.2.2.2.2.2.2.2.2.2.2.2.2.2.2.2.2.2.2.2.2.2.2.2.2.2.2.2.2.2.2.2.2.2.2.2.2.2.1
theorem s10_50r {G : mG} {r : Nat} (h : is10 G r) : G.2.1 r 50 = .ref (r + 38) := h.2.2.2.2.2.2.2.2.2.2.2.2.2.2.2.2.2.2.2.2.2.2.2.2.2.2.2.2.2.2.2.2.2.2.2.2.2.2.2.2.2.2.2.2.2.2.2.2.2.2.2.2.2.2.2.2.2.2.2.2.2.2.2.2.2.2.2.2.2.2.2.2.2.2.2.1
theorem s10_50s {G : mG} {r : Nat} (h : is10 G r) : G.1 (r + 38) = .inr (0, 282) := h.2.2.2.2.2.2.2.2.2.2.2.2.2.2.2.2.2.2.2.2.2.2.2.2.2.2.2.2.2.2.2.2.2.2.2.2.2.2.2.2.2.2.2.2.2.2.2.2.2.2.2.2.2.2.2.2.2.2.2.2.2.2.2.2.2.2.2.2.2.2.2.2.2.2.2.2.1
theorem s10_59r {G : mG} {r : Nat} (h : is10 G r) : G.2.1 r 59 = .ref (r + 39) := h.2.2.2.2.2.2.2.2.2.2.2.2.2.2.2.2.2.2.2.2.2.2.2.2.2.2.2.2.2.2.2.2.2.2.2.2.2.2.2.2.2.2.2.2.2.2.2.2.2.2.2.2.2.2.2.2.2.2.2.2.2.2.2.2.2.2.2.2.2.2.2.2.2.2.2.2.2.1
theorem s10_59s {G : mG} {r : Nat} (h : is10 G r) : G.1 (r + 39) = .inr (0, 3) := h.2.2.2.2.2.2.2.2.2.2.2.2.2.2.2.2.2.2.2.2.2.2.2.2.2.2.2.2.2.2.2.2.2.2.2.2.2.2.2.2.2.2.2.2.2.2.2.2.2.2.2.2.2.2.2.2.2.2.2.2.2.2.2.2.2.2.2.2.2.2.2.2.2.2.2.2.2.2.1
theorem s10_60r {G : mG} {r : Nat} (h : is10 G r) : G.2.1 r 60 = .ref (r + 40) := h.2.2.2.2.2.2.2.2.2.2.2.2.2.2.2.2.2.2.2.2.2.2.2.2.2.2.2.2.2.2.2.2.2.2.2.2.2.2.2.2.2.2.2.2.2.2.2.2.2.2.2.2.2.2.2.2.2.2.2.2.2.2.2.2.2.2.2.2.2.2.2.2.2.2.2.2.2.2.2.1
theorem s10_60s {G : mG} {r : Nat} (h : is10 G r) : G.1 (r + 40) = .inr (0, 10) := h.2.2.2.2.2.2.2.2.2.2.2.2.2.2.2.2.2.2.2.2.2.2.2.2.2.2.2.2.2.2.2.2.2.2.2.2.2.2.2.2.2.2.2.2.2.2.2.2.2.2.2.2.2.2.2.2.2.2.2.2.2.2.2.2.2.2.2.2.2.2.2.2.2.2.2.2.2.2.2.2.1
theorem s10_63r {G : mG} {r : Nat} (h : is10 G r) : G.2.1 r 63 = .ref (r + 41) := h.2.2.2.2.2.2.2.2.2.2.2.2.2.2.2.2.2.2.2.2.2.2.2.2.2.2.2.2.2.2.2.2.2.2.2.2.2.2.2.2.2.2.2.2.2.2.2.2.2.2.2.2.2.2.2.2.2.2.2.2.2.2.2.2.2.2.2.2.2.2.2.2.2.2.2.2.2.2.2.2.2.1
theorem s10_63s {G : mG} {r : Nat} (h : is10 G r) : G.1 (r + 41) = .inr (0, 10) := h.2.2.2.2.2.2.2.2.2.2.2.2.2.2.2.2.2.2.2.2.2.2.2.2.2.2.2.2.2.2.2.2.2.2.2.2.2.2.2.2.2.2.2.2.2.2.2.2.2.2.2.2.2.2.2.2.2.2.2.2.2.2.2.2.2.2.2.2.2.2.2.2.2.2.2.2.2.2.2.2.2.2.1
theorem s10_66r {G : mG} {r : Nat} (h : is10 G r) : G.2.1 r 66 = .ref (r + 42) := h.2.2.2.2.2.2.2.2.2.2.2.2.2.2.2.2.2.2.2.2.2.2.2.2.2.2.2.2.2.2.2.2.2.2.2.2.2.2.2.2.2.2.2.2.2.2.2.2.2.2.2.2.2.2.2.2.2.2.2.2.2.2.2.2.2.2.2.2.2.2.2.2.2.2.2.2.2.2.2.2.2.2.2.1
theorem s10_66s {G : mG} {r : Nat} (h : is10 G r) : G.1 (r + 42) = .inr (0, 11264) := h.2.2.2.2.2.2.2.2.2.2.2.2.2.2.2.2.2.2.2.2.2.2.2.2.2.2.2.2.2.2.2.2.2.2.2.2.2.2.2.2.2.2.2.2.2.2.2.2.2.2.2.2.2.2.2.2.2.2.2.2.2.2.2.2.2.2.2.2.2.2.2.2.2.2.2.2.2.2.2.2.2.2.2.2.1
theorem s10_67r {G : mG} {r : Nat} (h : is10 G r) : G.2.1 r 67 = .ref (r + 43) := h.2.2.2.2.2.2.2.2.2.2.2.2.2.2.2.2.2.2.2.2.2.2.2.2.2.2.2.2.2.2.2.2.2.2.2.2.2.2.2.2.2.2.2.2.2.2.2.2.2.2.2.2.2.2.2.2.2.2.2.2.2.2.2.2.2.2.2.2.2.2.2.2.2.2.2.2.2.2.2.2.2.2.2.2.2.1
theorem s10_67s {G : mG} {r : Nat} (h : is10 G r) : G.1 (r + 43) = .inr (0, 100) := h.2.2.2.2.2.2.2.2.2.2.2.2.2.2.2.2.2.2.2.2.2.2.2.2.2.2.2.2.2.2.2.2.2.2.2.2.2.2.2.2.2.2.2.2.2.2.2.2.2.2.2.2.2.2.2.2.2.2.2.2.2.2.2.2.2.2.2.2.2.2.2.2.2.2.2.2.2.2.2.2.2.2.2.2.2.2.1
theorem s10_68r {G : mG} {r : Nat} (h : is10 G r) : G.2.1 r 68 = .ref (r + 44) := h.2.2.2.2.2.2.2.2.2.2.2.2.2.2.2.2.2.2.2.2.2.2.2.2.2.2.2.2.2.2.2.2.2.2.2.2.2.2.2.2.2.2.2.2.2.2.2.2.2.2.2.2.2.2.2.2.2.2.2.2.2.2.2.2.2.2.2.2.2.2.2.2.2.2.2.2.2.2.2.2.2.2.2.2.2.2.2.1
theorem s10_68s {G : mG} {r : Nat} (h : is10 G r) : G.1 (r + 44) = .inr (0, 5640) := h.2.2.2.2.2.2.2.2.2.2.2.2.2.2.2.2.2.2.2.2.2.2.2.2.2.2.2.2.2.2.2.2.2.2.2.2.2.2.2.2.2.2.2.2.2.2.2.2.2.2.2.2.2.2.2.2.2.2.2.2.2.2.2.2.2.2.2.2.2.2.2.2.2.2.2.2.2.2.2.2.2.2.2.2.2.2.2.2.1
theorem s10_74r {G : mG} {r : Nat} (h : is10 G r) : G.2.1 r 74 = .ref (r + 45) := h.2.2.2.2.2.2.2.2.2.2.2.2.2.2.2.2.2.2.2.2.2.2.2.2.2.2.2.2.2.2.2.2.2.2.2.2.2.2.2.2.2.2.2.2.2.2.2.2.2.2.2.2.2.2.2.2.2.2.2.2.2.2.2.2.2.2.2.2.2.2.2.2.2.2.2.2.2.2.2.2.2.2.2.2.2.2.2.2.2.1
theorem s10_74s {G : mG} {r : Nat} (h : is10 G r) : G.1 (r + 45) = .inr (0, 60) := h.2.2.2.2.2.2.2.2.2.2.2.2.2.2.2.2.2.2.2.2.2.2.2.2.2.2.2.2.2.2.2.2.2.2.2.2.2.2.2.2.2.2.2.2.2.2.2.2.2.2.2.2.2.2.2.2.2.2.2.2.2.2.2.2.2.2.2.2.2.2.2.2.2.2.2.2.2.2.2.2.2.2.2.2.2.2.2.2.2.2.1
theorem s10_75r {G : mG} {r : Nat} (h : is10 G r) : G.2.1 r 75 = .ref (r + 46) := h.2.2.2.2.2.2.2.2.2.2.2.2.2.2.2.2.2.2.2.2.2.2.2.2.2.2.2.2.2.2.2.2.2.2.2.2.2.2.2.2.2.2.2.2.2.2.2.2.2.2.2.2.2.2.2.2.2.2.2.2.2.2.2.2.2.2.2.2.2.2.2.2.2.2.2.2.2.2.2.2.2.2.2.2.2.2.2.2.2.2.2.1
theorem s10_75s {G : mG} {r : Nat} (h : is10 G r) : G.1 (r + 46) = .inr (1, 5) := h.2.2.2.2.2.2.2.2.2.2.2.2.2.2.2.2.2.2.2.2.2.2.2.2.2.2.2.2.2.2.2.2.2.2.2.2.2.2.2.2.2.2.2.2.2.2.2.2.2.2.2.2.2.2.2.2.2.2.2.2.2.2.2.2.2.2.2.2.2.2.2.2.2.2.2.2.2.2.2.2.2.2.2.2.2.2.2.2.2.2.2.2.1
theorem s10_76r {G : mG} {r : Nat} (h : is10 G r) : G.2.1 r 76 = .ref (r + 47) := h.2.2.2.2.2.2.2.2.2.2.2.2.2.2.2.2.2.2.2.2.2.2.2.2.2.2.2.2.2.2.2.2.2.2.2.2.2.2.2.2.2.2.2.2.2.2.2.2.2.2.2.2.2.2.2.2.2.2.2.2.2.2.2.2.2.2.2.2.2.2.2.2.2.2.2.2.2.2.2.2.2.2.2.2.2.2.2.2.2.2.2.2.2.1
theorem s10_76s {G : mG} {r : Nat} (h : is10 G r) : G.1 (r + 47) = .inr (1, 4) := h.2.2.2.2.2.2.2.2.2.2.2.2.2.2.2.2.2.2.2.2.2.2.2.2.2.2.2.2.2.2.2.2.2.2.2.2.2.2.2.2.2.2.2.2.2.2.2.2.2.2.2.2.2.2.2.2.2.2.2.2.2.2.2.2.2.2.2.2.2.2.2.2.2.2.2.2.2.2.2.2.2.2.2.2.2.2.2.2.2.2.2.2.2.2.1
theorem s10_77r {G : mG} {r : Nat} (h : is10 G r) : G.2.1 r 77 = .ref (r + 48) := h.2.2.2.2.2.2.2.2.2.2.2.2.2.2.2.2.2.2.2.2.2.2.2.2.2.2.2.2.2.2.2.2.2.2.2.2.2.2.2.2.2.2.2.2.2.2.2.2.2.2.2.2.2.2.2.2.2.2.2.2.2.2.2.2.2.2.2.2.2.2.2.2.2.2.2.2.2.2.2.2.2.2.2.2.2.2.2.2.2.2.2.2.2.2.2.1
theorem s10_77s {G : mG} {r : Nat} (h : is10 G r) : G.1 (r + 48) = .inr (1, 5) := h.2.2.2.2.2.2.2.2.2.2.2.2.2.2.2.2.2.2.2.2.2.2.2.2.2.2.2.2.2.2.2.2.2.2.2.2.2.2.2.2.2.2.2.2.2.2.2.2.2.2.2.2.2.2.2.2.2.2.2.2.2.2.2.2.2.2.2.2.2.2.2.2.2.2.2.2.2.2.2.2.2.2.2.2.2.2.2.2.2.2.2.2.2.2.2.2.1
theorem s10_78r {G : mG} {r : Nat} (h : is10 G r) : G.2.1 r 78 = .ref (r + 49) := h.2.2.2.2.2.2.2.2.2.2.2.2.2.2.2.2.2.2.2.2.2.2.2.2.2.2.2.2.2.2.2.2.2.2.2.2.2.2.2.2.2.2.2.2.2.2.2.2.2.2.2.2.2.2.2.2.2.2.2.2.2.2.2.2.2.2.2.2.2.2.2.2.2.2.2.2.2.2.2.2.2.2.2.2.2.2.2.2.2.2.2.2.2.2.2.2.2.1
theorem s10_78s {G : mG} {r : Nat} (h : is10 G r) : G.1 (r + 49) = .inr (1, 5) := h.2.2.2.2.2.2.2.2.2.2.2.2.2.2.2.2.2.2.2.2.2.2.2.2.2.2.2.2.2.2.2.2.2.2.2.2.2.2.2.2.2.2.2.2.2.2.2.2.2.2.2.2.2.2.2.2.2.2.2.2.2.2.2.2.2.2.2.2.2.2.2.2.2.2.2.2.2.2.2.2.2.2.2.2.2.2.2.2.2.2.2.2.2.2.2.2.2.2.1
theorem s10_79r {G : mG} {r : Nat} (h : is10 G r) : G.2.1 r 79 = .ref (r + 50) := h.2.2.2.2.2.2.2.2.2.2.2.2.2.2.2.2.2.2.2.2.2.2.2.2.2.2.2.2.2.2.2.2.2.2.2.2.2.2.2.2.2.2.2.2.2.2.2.2.2.2.2.2.2.2.2.2.2.2.2.2.2.2.2.2.2.2.2.2.2.2.2.2.2.2.2.2.2.2.2.2.2.2.2.2.2.2.2.2.2.2.2.2.2.2.2.2.2.2.2.1
theorem s10_79s {G : mG} {r : Nat} (h : is10 G r) : G.1 (r + 50) = .inr (1, 4) := h.2.2.2.2.2.2.2.2.2.2.2.2.2.2.2.2.2.2.2.2.2.2.2.2.2.2.2.2.2.2.2.2.2.2.2.2.2.2.2.2.2.2.2.2.2.2.2.2.2.2.2.2.2.2.2.2.2.2.2.2.2.2.2.2.2.2.2.2.2.2.2.2.2.2.2.2.2.2.2.2.2.2.2.2.2.2.2.2.2.2.2.2.2.2.2.2.2.2.2.2.1
theorem s10_80r {G : mG} {r : Nat} (h : is10 G r) : G.2.1 r 80 = .ref (r + 51) := h.2.2.2.2.2.2.2.2.2.2.2.2.2.2.2.2.2.2.2.2.2.2.2.2.2.2.2.2.2.2.2.2.2.2.2.2.2.2.2.2.2.2.2.2.2.2.2.2.2.2.2.2.2.2.2.2.2.2.2.2.2.2.2.2.2.2.2.2.2.2.2.2.2.2.2.2.2.2.2.2.2.2.2.2.2.2.2.2.2.2.2.2.2.2.2.2.2.2.2.2.2.1
theorem s10_80s {G : mG} {r : Nat} (h : is10 G r) : G.1 (r + 51) = .inr (1, 5) := h.2.2.2.2.2.2.2.2.2.2.2.2.2.2.2.2.2.2.2.2.2.2.2.2.2.2.2.2.2.2.2.2.2.2.2.2.2.2.2.2.2.2.2.2.2.2.2.2.2.2.2.2.2.2.2.2.2.2.2.2.2.2.2.2.2.2.2.2.2.2.2.2.2.2.2.2.2.2.2.2.2.2.2.2.2.2.2.2.2.2.2.2.2.2.2.2.2.2.2.2.2.2.1
theorem s10_81r {G : mG} {r : Nat} (h : is10 G r) : G.2.1 r 81 = .ref (r + 52) := h.2.2.2.2.2.2.2.2.2.2.2.2.2.2.2.2.2.2.2.2.2.2.2.2.2.2.2.2.2.2.2.2.2.2.2.2.2.2.2.2.2.2.2.2.2.2.2.2.2.2.2.2.2.2.2.2.2.2.2.2.2.2.2.2.2.2.2.2.2.2.2.2.2.2.2.2.2.2.2.2.2.2.2.2.2.2.2.2.2.2.2.2.2.2.2.2.2.2.2.2.2.2.2.1
theorem s10_81s {G : mG} {r : Nat} (h : is10 G r) : G.1 (r + 52) = .inr (1, 3) := h.2.2.2.2.2.2.2.2.2.2.2.2.2.2.2.2.2.2.2.2.2.2.2.2.2.2.2.2.2.2.2.2.2.2.2.2.2.2.2.2.2.2.2.2.2.2.2.2.2.2.2.2.2.2.2.2.2.2.2.2.2.2.2.2.2.2.2.2.2.2.2.2.2.2.2.2.2.2.2.2.2.2.2.2.2.2.2.2.2.2.2.2.2.2.2.2.2.2.2.2.2.2.2.2.1
theorem s10_82r {G : mG} {r : Nat} (h : is10 G r) : G.2.1 r 82 = .ref (r + 53) := h.2.2.2.2.2.2.2.2.2.2.2.2.2.2.2.2.2.2.2.2.2.2.2.2.2.2.2.2.2.2.2.2.2.2.2.2.2.2.2.2.2.2.2.2.2.2.2.2.2.2.2.2.2.2.2.2.2.2.2.2.2.2.2.2.2.2.2.2.2.2.2.2.2.2.2.2.2.2.2.2.2.2.2.2.2.2.2.2.2.2.2.2.2.2.2.2.2.2.2.2.2.2.2.2.2.1
theorem s10_82s {G : mG} {r : Nat} (h : is10 G r) : G.1 (r + 53) = .inr (1, 3) := h.2.2.2.2.2.2.2.2.2.2.2.2.2.2.2.2.2.2.2.2.2.2.2.2.2.2.2.2.2.2.2.2.2.2.2.2.2.2.2.2.2.2.2.2.2.2.2.2.2.2.2.2.2.2.2.2.2.2.2.2.2.2.2.2.2.2.2.2.2.2.2.2.2.2.2.2.2.2.2.2.2.2.2.2.2.2.2.2.2.2.2.2.2.2.2.2.2.2.2.2.2.2.2.2.2.2.1
theorem s10_83r {G : mG} {r : Nat} (h : is10 G r) : G.2.1 r 83 = .ref (r + 54) := h.2.2.2.2.2.2.2.2.2.2.2.2.2.2.2.2.2.2.2.2.2.2.2.2.2.2.2.2.2.2.2.2.2.2.2.2.2.2.2.2.2.2.2.2.2.2.2.2.2.2.2.2.2.2.2.2.2.2.2.2.2.2.2.2.2.2.2.2.2.2.2.2.2.2.2.2.2.2.2.2.2.2.2.2.2.2.2.2.2.2.2.2.2.2.2.2.2.2.2.2.2.2.2.2.2.2.2.1
theorem s10_83s {G : mG} {r : Nat} (h : is10 G r) : G.1 (r + 54) = .inr (1, 2) := h.2.2.2.2.2.2.2.2.2.2.2.2.2.2.2.2.2.2.2.2.2.2.2.2.2.2.2.2.2.2.2.2.2.2.2.2.2.2.2.2.2.2.2.2.2.2.2.2.2.2.2.2.2.2.2.2.2.2.2.2.2.2.2.2.2.2.2.2.2.2.2.2.2.2.2.2.2.2.2.2.2.2.2.2.2.2.2.2.2.2.2.2.2.2.2.2.2.2.2.2.2.2.2.2.2.2.2.2.1
theorem s10_84r {G : mG} {r : Nat} (h : is10 G r) : G.2.1 r 84 = .ref (r + 55) := h.2.2.2.2.2.2.2.2.2.2.2.2.2.2.2.2.2.2.2.2.2.2.2.2.2.2.2.2.2.2.2.2.2.2.2.2.2.2.2.2.2.2.2.2.2.2.2.2.2.2.2.2.2.2.2.2.2.2.2.2.2.2.2.2.2.2.2.2.2.2.2.2.2.2.2.2.2.2.2.2.2.2.2.2.2.2.2.2.2.2.2.2.2.2.2.2.2.2.2.2.2.2.2.2.2.2.2.2.2.1
theorem s10_84s {G : mG} {r : Nat} (h : is10 G r) : G.1 (r + 55) = .inr (1, 3) := h.2.2.2.2.2.2.2.2.2.2.2.2.2.2.2.2.2.2.2.2.2.2.2.2.2.2.2.2.2.2.2.2.2.2.2.2.2.2.2.2.2.2.2.2.2.2.2.2.2.2.2.2.2.2.2.2.2.2.2.2.2.2.2.2.2.2.2.2.2.2.2.2.2.2.2.2.2.2.2.2.2.2.2.2.2.2.2.2.2.2.2.2.2.2.2.2.2.2.2.2.2.2.2.2.2.2.2.2.2.2.1
theorem s10_85r {G : mG} {r : Nat} (h : is10 G r) : G.2.1 r 85 = .ref (r + 56) := h.2.2.2.2.2.2.2.2.2.2.2.2.2.2.2.2.2.2.2.2.2.2.2.2.2.2.2.2.2.2.2.2.2.2.2.2.2.2.2.2.2.2.2.2.2.2.2.2.2.2.2.2.2.2.2.2.2.2.2.2.2.2.2.2.2.2.2.2.2.2.2.2.2.2.2.2.2.2.2.2.2.2.2.2.2.2.2.2.2.2.2.2.2.2.2.2.2.2.2.2.2.2.2.2.2.2.2.2.2.2.2.1
theorem s10_85s {G : mG} {r : Nat} (h : is10 G r) : G.1 (r + 56) = .inr (1, 3) := h.2.2.2.2.2.2.2.2.2.2.2.2.2.2.2.2.2.2.2.2.2.2.2.2.2.2.2.2.2.2.2.2.2.2.2.2.2.2.2.2.2.2.2.2.2.2.2.2.2.2.2.2.2.2.2.2.2.2.2.2.2.2.2.2.2.2.2.2.2.2.2.2.2.2.2.2.2.2.2.2.2.2.2.2.2.2.2.2.2.2.2.2.2.2.2.2.2.2.2.2.2.2.2.2.2.2.2.2.2.2.2.2.1
theorem s10_86r {G : mG} {r : Nat} (h : is10 G r) : G.2.1 r 86 = .ref (r + 57) := h.2.2.2.2.2.2.2.2.2.2.2.2.2.2.2.2.2.2.2.2.2.2.2.2.2.2.2.2.2.2.2.2.2.2.2.2.2.2.2.2.2.2.2.2.2.2.2.2.2.2.2.2.2.2.2.2.2.2.2.2.2.2.2.2.2.2.2.2.2.2.2.2.2.2.2.2.2.2.2.2.2.2.2.2.2.2.2.2.2.2.2.2.2.2.2.2.2.2.2.2.2.2.2.2.2.2.2.2.2.2.2.2.2.1
theorem s10_86s {G : mG} {r : Nat} (h : is10 G r) : G.1 (r + 57) = .inr (1, 3) := h.2.2.2.2.2.2.2.2.2.2.2.2.2.2.2.2.2.2.2.2.2.2.2.2.2.2.2.2.2.2.2.2.2.2.2.2.2.2.2.2.2.2.2.2.2.2.2.2.2.2.2.2.2.2.2.2.2.2.2.2.2.2.2.2.2.2.2.2.2.2.2.2.2.2.2.2.2.2.2.2.2.2.2.2.2.2.2.2.2.2.2.2.2.2.2.2.2.2.2.2.2.2.2.2.2.2.2.2.2.2.2.2.2.2.1
theorem s10_87r {G : mG} {r : Nat} (h : is10 G r) : G.2.1 r 87 = .ref (r + 58) := h.2.2.2.2.2.2.2.2.2.2.2.2.2.2.2.2.2.2.2.2.2.2.2.2.2.2.2.2.2.2.2.2.2.2.2.2.2.2.2.2.2.2.2.2.2.2.2.2.2.2.2.2.2.2.2.2.2.2.2.2.2.2.2.2.2.2.2.2.2.2.2.2.2.2.2.2.2.2.2.2.2.2.2.2.2.2.2.2.2.2.2.2.2.2.2.2.2.2.2.2.2.2.2.2.2.2.2.2.2.2.2.2.2.2.2.1
theorem s10_87s {G : mG} {r : Nat} (h : is10 G r) : G.1 (r + 58) = .inr (1, 5) := h.2.2.2.2.2.2.2.2.2.2.2.2.2.2.2.2.2.2.2.2.2.2.2.2.2.2.2.2.2.2.2.2.2.2.2.2.2.2.2.2.2.2.2.2.2.2.2.2.2.2.2.2.2.2.2.2.2.2.2.2.2.2.2.2.2.2.2.2.2.2.2.2.2.2.2.2.2.2.2.2.2.2.2.2.2.2.2.2.2.2.2.2.2.2.2.2.2.2.2.2.2.2.2.2.2.2.2.2.2.2.2.2.2.2.2.2.1
theorem s10_88r {G : mG} {r : Nat} (h : is10 G r) : G.2.1 r 88 = .ref (r + 59) := h.2.2.2.2.2.2.2.2.2.2.2.2.2.2.2.2.2.2.2.2.2.2.2.2.2.2.2.2.2.2.2.2.2.2.2.2.2.2.2.2.2.2.2.2.2.2.2.2.2.2.2.2.2.2.2.2.2.2.2.2.2.2.2.2.2.2.2.2.2.2.2.2.2.2.2.2.2.2.2.2.2.2.2.2.2.2.2.2.2.2.2.2.2.2.2.2.2.2.2.2.2.2.2.2.2.2.2.2.2.2.2.2.2.2.2.2.2.1
theorem s10_88s {G : mG} {r : Nat} (h : is10 G r) : G.1 (r + 59) = .inr (1, 3) := h.2.2.2.2.2.2.2.2.2.2.2.2.2.2.2.2.2.2.2.2.2.2.2.2.2.2.2.2.2.2.2.2.2.2.2.2.2.2.2.2.2.2.2.2.2.2.2.2.2.2.2.2.2.2.2.2.2.2.2.2.2.2.2.2.2.2.2.2.2.2.2.2.2.2.2.2.2.2.2.2.2.2.2.2.2.2.2.2.2.2.2.2.2.2.2.2.2.2.2.2.2.2.2.2.2.2.2.2.2.2.2.2.2.2.2.2.2.2.1
theorem s10_89r {G : mG} {r : Nat} (h : is10 G r) : G.2.1 r 89 = .ref (r + 60) := h.2.2.2.2.2.2.2.2.2.2.2.2.2.2.2.2.2.2.2.2.2.2.2.2.2.2.2.2.2.2.2.2.2.2.2.2.2.2.2.2.2.2.2.2.2.2.2.2.2.2.2.2.2.2.2.2.2.2.2.2.2.2.2.2.2.2.2.2.2.2.2.2.2.2.2.2.2.2.2.2.2.2.2.2.2.2.2.2.2.2.2.2.2.2.2.2.2.2.2.2.2.2.2.2.2.2.2.2.2.2.2.2.2.2.2.2.2.2.2.1
theorem s10_89s {G : mG} {r : Nat} (h : is10 G r) : G.1 (r + 60) = .inr (1, 6) := h.2.2.2.2.2.2.2.2.2.2.2.2.2.2.2.2.2.2.2.2.2.2.2.2.2.2.2.2.2.2.2.2.2.2.2.2.2.2.2.2.2.2.2.2.2.2.2.2.2.2.2.2.2.2.2.2.2.2.2.2.2.2.2.2.2.2.2.2.2.2.2.2.2.2.2.2.2.2.2.2.2.2.2.2.2.2.2.2.2.2.2.2.2.2.2.2.2.2.2.2.2.2.2.2.2.2.2.2.2.2.2.2.2.2.2.2.2.2.2.2.1
theorem s10_90r {G : mG} {r : Nat} (h : is10 G r) : G.2.1 r 90 = .ref (r + 61) := h.2.2.2.2.2.2.2.2.2.2.2.2.2.2.2.2.2.2.2.2.2.2.2.2.2.2.2.2.2.2.2.2.2.2.2.2.2.2.2.2.2.2.2.2.2.2.2.2.2.2.2.2.2.2.2.2.2.2.2.2.2.2.2.2.2.2.2.2.2.2.2.2.2.2.2.2.2.2.2.2.2.2.2.2.2.2.2.2.2.2.2.2.2.2.2.2.2.2.2.2.2.2.2.2.2.2.2.2.2.2.2.2.2.2.2.2.2.2.2.2.2.1
theorem s10_90s {G : mG} {r : Nat} (h : is10 G r) : G.1 (r + 61) = .inr (1, 4) := h.2.2.2.2.2.2.2.2.2.2.2.2.2.2.2.2.2.2.2.2.2.2.2.2.2.2.2.2.2.2.2.2.2.2.2.2.2.2.2.2.2.2.2.2.2.2.2.2.2.2.2.2.2.2.2.2.2.2.2.2.2.2.2.2.2.2.2.2.2.2.2.2.2.2.2.2.2.2.2.2.2.2.2.2.2.2.2.2.2.2.2.2.2.2.2.2.2.2.2.2.2.2.2.2.2.2.2.2.2.2.2.2.2.2.2.2.2.2.2.2.2.2.1
theorem s10_91r {G : mG} {r : Nat} (h : is10 G r) : G.2.1 r 91 = .ref (r + 62) := h.2.2.2.2.2.2.2.2.2.2.2.2.2.2.2.2.2.2.2.2.2.2.2.2.2.2.2.2.2.2.2.2.2.2.2.2.2.2.2.2.2.2.2.2.2.2.2.2.2.2.2.2.2.2.2.2.2.2.2.2.2.2.2.2.2.2.2.2.2.2.2.2.2.2.2.2.2.2.2.2.2.2.2.2.2.2.2.2.2.2.2.2.2.2.2.2.2.2.2.2.2.2.2.2.2.2.2.2.2.2.2.2.2.2.2.2.2.2.2.2.2.2.2.1
theorem s10_91s {G : mG} {r : Nat} (h : is10 G r) : G.1 (r + 62) = .inr (1, 4) := h.2.2.2.2.2.2.2.2.2.2.2.2.2.2.2.2.2.2.2.2.2.2.2.2.2.2.2.2.2.2.2.2.2.2.2.2.2.2.2.2.2.2.2.2.2.2.2.2.2.2.2.2.2.2.2.2.2.2.2.2.2.2.2.2.2.2.2.2.2.2.2.2.2.2.2.2.2.2.2.2.2.2.2.2.2.2.2.2.2.2.2.2.2.2.2.2.2.2.2.2.2.2.2.2.2.2.2.2.2.2.2.2.2.2.2.2.2.2.2.2.2.2.2.2.1
theorem s10_92r {G : mG} {r : Nat} (h : is10 G r) : G.2.1 r 92 = .ref (r + 63) := h.2.2.2.2.2.2.2.2.2.2.2.2.2.2.2.2.2.2.2.2.2.2.2.2.2.2.2.2.2.2.2.2.2.2.2.2.2.2.2.2.2.2.2.2.2.2.2.2.2.2.2.2.2.2.2.2.2.2.2.2.2.2.2.2.2.2.2.2.2.2.2.2.2.2.2.2.2.2.2.2.2.2.2.2.2.2.2.2.2.2.2.2.2.2.2.2.2.2.2.2.2.2.2.2.2.2.2.2.2.2.2.2.2.2.2.2.2.2.2.2.2.2.2.2.2.1
theorem s10_92s {G : mG} {r : Nat} (h : is10 G r) : G.1 (r + 63) = .inr (1, 3) := h.2.2.2.2.2.2.2.2.2.2.2.2.2.2.2.2.2.2.2.2.2.2.2.2.2.2.2.2.2.2.2.2.2.2.2.2.2.2.2.2.2.2.2.2.2.2.2.2.2.2.2.2.2.2.2.2.2.2.2.2.2.2.2.2.2.2.2.2.2.2.2.2.2.2.2.2.2.2.2.2.2.2.2.2.2.2.2.2.2.2.2.2.2.2.2.2.2.2.2.2.2.2.2.2.2.2.2.2.2.2.2.2.2.2.2.2.2.2.2.2.2.2.2.2.2.2.1
theorem s10_93r {G : mG} {r : Nat} (h : is10 G r) : G.2.1 r 93 = .ref (r + 64) := h.2.2.2.2.2.2.2.2.2.2.2.2.2.2.2.2.2.2.2.2.2.2.2.2.2.2.2.2.2.2.2.2.2.2.2.2.2.2.2.2.2.2.2.2.2.2.2.2.2.2.2.2.2.2.2.2.2.2.2.2.2.2.2.2.2.2.2.2.2.2.2.2.2.2.2.2.2.2.2.2.2.2.2.2.2.2.2.2.2.2.2.2.2.2.2.2.2.2.2.2.2.2.2.2.2.2.2.2.2.2.2.2.2.2.2.2.2.2.2.2.2.2.2.2.2.2.2.1
theorem s10_93s {G : mG} {r : Nat} (h : is10 G r) : G.1 (r + 64) = .inr (1, 6) := h.2.2.2.2.2.2.2.2.2.2.2.2.2.2.2.2.2.2.2.2.2.2.2.2.2.2.2.2.2.2.2.2.2.2.2.2.2.2.2.2.2.2.2.2.2.2.2.2.2.2.2.2.2.2.2.2.2.2.2.2.2.2.2.2.2.2.2.2.2.2.2.2.2.2.2.2.2.2.2.2.2.2.2.2.2.2.2.2.2.2.2.2.2.2.2.2.2.2.2.2.2.2.2.2.2.2.2.2.2.2.2.2.2.2.2.2.2.2.2.2.2.2.2.2.2.2.2.2.1
theorem s10_94r {G : mG} {r : Nat} (h : is10 G r) : G.2.1 r 94 = .ref (r + 65) := h.2.2.2.2.2.2.2.2.2.2.2.2.2.2.2.2.2.2.2.2.2.2.2.2.2.2.2.2.2.2.2.2.2.2.2.2.2.2.2.2.2.2.2.2.2.2.2.2.2.2.2.2.2.2.2.2.2.2.2.2.2.2.2.2.2.2.2.2.2.2.2.2.2.2.2.2.2.2.2.2.2.2.2.2.2.2.2.2.2.2.2.2.2.2.2.2.2.2.2.2.2.2.2.2.2.2.2.2.2.2.2.2.2.2.2.2.2.2.2.2.2.2.2.2.2.2.2.2.2.1
theorem s10_94s {G : mG} {r : Nat} (h : is10 G r) : G.1 (r + 65) = .inr (1, 4) := h.2.2.2.2.2.2.2.2.2.2.2.2.2.2.2.2.2.2.2.2.2.2.2.2.2.2.2.2.2.2.2.2.2.2.2.2.2.2.2.2.2.2.2.2.2.2.2.2.2.2.2.2.2.2.2.2.2.2.2.2.2.2.2.2.2.2.2.2.2.2.2.2.2.2.2.2.2.2.2.2.2.2.2.2.2.2.2.2.2.2.2.2.2.2.2.2.2.2.2.2.2.2.2.2.2.2.2.2.2.2.2.2.2.2.2.2.2.2.2.2.2.2.2.2.2.2.2.2.2.2.1
theorem s10_95r {G : mG} {r : Nat} (h : is10 G r) : G.2.1 r 95 = .ref (r + 66) := h.2.2.2.2.2.2.2.2.2.2.2.2.2.2.2.2.2.2.2.2.2.2.2.2.2.2.2.2.2.2.2.2.2.2.2.2.2.2.2.2.2.2.2.2.2.2.2.2.2.2.2.2.2.2.2.2.2.2.2.2.2.2.2.2.2.2.2.2.2.2.2.2.2.2.2.2.2.2.2.2.2.2.2.2.2.2.2.2.2.2.2.2.2.2.2.2.2.2.2.2.2.2.2.2.2.2.2.2.2.2.2.2.2.2.2.2.2.2.2.2.2.2.2.2.2.2.2.2.2.2.2.1
theorem s10_95s {G : mG} {r : Nat} (h : is10 G r) : G.1 (r + 66) = .inr (1, 4) := h.2.2.2.2.2.2.2.2.2.2.2.2.2.2.2.2.2.2.2.2.2.2.2.2.2.2.2.2.2.2.2.2.2.2.2.2.2.2.2.2.2.2.2.2.2.2.2.2.2.2.2.2.2.2.2.2.2.2.2.2.2.2.2.2.2.2.2.2.2.2.2.2.2.2.2.2.2.2.2.2.2.2.2.2.2.2.2.2.2.2.2.2.2.2.2.2.2.2.2.2.2.2.2.2.2.2.2.2.2.2.2.2.2.2.2.2.2.2.2.2.2.2.2.2.2.2.2.2.2.2.2.2.1
theorem s10_96r {G : mG} {r : Nat} (h : is10 G r) : G.2.1 r 96 = .ref (r + 67) := h.2.2.2.2.2.2.2.2.2.2.2.2.2.2.2.2.2.2.2.2.2.2.2.2.2.2.2.2.2.2.2.2.2.2.2.2.2.2.2.2.2.2.2.2.2.2.2.2.2.2.2.2.2.2.2.2.2.2.2.2.2.2.2.2.2.2.2.2.2.2.2.2.2.2.2.2.2.2.2.2.2.2.2.2.2.2.2.2.2.2.2.2.2.2.2.2.2.2.2.2.2.2.2.2.2.2.2.2.2.2.2.2.2.2.2.2.2.2.2.2.2.2.2.2.2.2.2.2.2.2.2.2.2.1
theorem s10_96s {G : mG} {r : Nat} (h : is10 G r) : G.1 (r + 67) = .inr (1, 5) := h.2.2.2.2.2.2.2.2.2.2.2.2.2.2.2.2.2.2.2.2.2.2.2.2.2.2.2.2.2.2.2.2.2.2.2.2.2.2.2.2.2.2.2.2.2.2.2.2.2.2.2.2.2.2.2.2.2.2.2.2.2.2.2.2.2.2.2.2.2.2.2.2.2.2.2.2.2.2.2.2.2.2.2.2.2.2.2.2.2.2.2.2.2.2.2.2.2.2.2.2.2.2.2.2.2.2.2.2.2.2.2.2.2.2.2.2.2.2.2.2.2.2.2.2.2.2.2.2.2.2.2.2.2.2.1
theorem s10_97r {G : mG} {r : Nat} (h : is10 G r) : G.2.1 r 97 = .ref (r + 68) := h.2.2.2.2.2.2.2.2.2.2.2.2.2.2.2.2.2.2.2.2.2.2.2.2.2.2.2.2.2.2.2.2.2.2.2.2.2.2.2.2.2.2.2.2.2.2.2.2.2.2.2.2.2.2.2.2.2.2.2.2.2.2.2.2.2.2.2.2.2.2.2.2.2.2.2.2.2.2.2.2.2.2.2.2.2.2.2.2.2.2.2.2.2.2.2.2.2.2.2.2.2.2.2.2.2.2.2.2.2.2.2.2.2.2.2.2.2.2.2.2.2.2.2.2.2.2.2.2.2.2.2.2.2.2.2.1
theorem s10_97s {G : mG} {r : Nat} (h : is10 G r) : G.1 (r + 68) = .inr (0, 1700) := h.2.2.2.2.2.2.2.2.2.2.2.2.2.2.2.2.2.2.2.2.2.2.2.2.2.2.2.2.2.2.2.2.2.2.2.2.2.2.2.2.2.2.2.2.2.2.2.2.2.2.2.2.2.2.2.2.2.2.2.2.2.2.2.2.2.2.2.2.2.2.2.2.2.2.2.2.2.2.2.2.2.2.2.2.2.2.2.2.2.2.2.2.2.2.2.2.2.2.2.2.2.2.2.2.2.2.2.2.2.2.2.2.2.2.2.2.2.2.2.2.2.2.2.2.2.2.2.2.2.2.2.2.2.2.2.2.1
theorem s10_99r {G : mG} {r : Nat} (h : is10 G r) : G.2.1 r 99 = .ref (r + 69) := h.2.2.2.2.2.2.2.2.2.2.2.2.2.2.2.2.2.2.2.2.2.2.2.2.2.2.2.2.2.2.2.2.2.2.2.2.2.2.2.2.2.2.2.2.2.2.2.2.2.2.2.2.2.2.2.2.2.2.2.2.2.2.2.2.2.2.2.2.2.2.2.2.2.2.2.2.2.2.2.2.2.2.2.2.2.2.2.2.2.2.2.2.2.2.2.2.2.2.2.2.2.2.2.2.2.2.2.2.2.2.2.2.2.2.2.2.2.2.2.2.2.2.2.2.2.2.2.2.2.2.2.2.2.2.2.2.2.1
theorem s10_99s {G : mG} {r : Nat} (h : is10 G r) : G.1 (r + 69) = .inr (0, 1700) := h.2.2.2.2.2.2.2.2.2.2.2.2.2.2.2.2.2.2.2.2.2.2.2.2.2.2.2.2.2.2.2.2.2.2.2.2.2.2.2.2.2.2.2.2.2.2.2.2.2.2.2.2.2.2.2.2.2.2.2.2.2.2.2.2.2.2.2.2.2.2.2.2.2.2.2.2.2.2.2.2.2.2.2.2.2.2.2.2.2.2.2.2.2.2.2.2.2.2.2.2.2.2.2.2.2.2.2.2.2.2.2.2.2.2.2.2.2.2.2.2.2.2.2.2.2.2.2.2.2.2.2.2.2.2.2.2.2.2.1
theorem s10_103r {G : mG} {r : Nat} (h : is10 G r) : G.2.1 r 103 = .ref (r + 70) := h.2.2.2.2.2.2.2.2.2.2.2.2.2.2.2.2.2.2.2.2.2.2.2.2.2.2.2.2.2.2.2.2.2.2.2.2.2.2.2.2.2.2.2.2.2.2.2.2.2.2.2.2.2.2.2.2.2.2.2.2.2.2.2.2.2.2.2.2.2.2.2.2.2.2.2.2.2.2.2.2.2.2.2.2.2.2.2.2.2.2.2.2.2.2.2.2.2.2.2.2.2.2.2.2.2.2.2.2.2.2.2.2.2.2.2.2.2.2.2.2.2.2.2.2.2.2.2.2.2.2.2.2.2.2.2.2.2.2.2.1
theorem s10_103s {G : mG} {r : Nat} (h : is10 G r) : G.1 (r + 70) = .inr (2, 1700) := h.2.2.2.2.2.2.2.2.2.2.2.2.2.2.2.2.2.2.2.2.2.2.2.2.2.2.2.2.2.2.2.2.2.2.2.2.2.2.2.2.2.2.2.2.2.2.2.2.2.2.2.2.2.2.2.2.2.2.2.2.2.2.2.2.2.2.2.2.2.2.2.2.2.2.2.2.2.2.2.2.2.2.2.2.2.2.2.2.2.2.2.2.2.2.2.2.2.2.2.2.2.2.2.2.2.2.2.2.2.2.2.2.2.2.2.2.2.2.2.2.2.2.2.2.2.2.2.2.2.2.2.2.2.2.2.2.2.2.2.2.1
theorem s10_107r {G : mG} {r : Nat} (h : is10 G r) : G.2.1 r 107 = .ref (r + 71) := h.2.2.2.2.2.2.2.2.2.2.2.2.2.2.2.2.2.2.2.2.2.2.2.2.2.2.2.2.2.2.2.2.2.2.2.2.2.2.2.2.2.2.2.2.2.2.2.2.2.2.2.2.2.2.2.2.2.2.2.2.2.2.2.2.2.2.2.2.2.2.2.2.2.2.2.2.2.2.2.2.2.2.2.2.2.2.2.2.2.2.2.2.2.2.2.2.2.2.2.2.2.2.2.2.2.2.2.2.2.2.2.2.2.2.2.2.2.2.2.2.2.2.2.2.2.2.2.2.2.2.2.2.2.2.2.2.2.2.2.2.2.1
theorem s10_107s {G : mG} {r : Nat} (h : is10 G r) : G.1 (r + 71) = .inr (0, 123) := h.2.2.2.2.2.2.2.2.2.2.2.2.2.2.2.2.2.2.2.2.2.2.2.2.2.2.2.2.2.2.2.2.2.2.2.2.2.2.2.2.2.2.2.2.2.2.2.2.2.2.2.2.2.2.2.2.2.2.2.2.2.2.2.2.2.2.2.2.2.2.2.2.2.2.2.2.2.2.2.2.2.2.2.2.2.2.2.2.2.2.2.2.2.2.2.2.2.2.2.2.2.2.2.2.2.2.2.2.2.2.2.2.2.2.2.2.2.2.2.2.2.2.2.2.2.2.2.2.2.2.2.2.2.2.2.2.2.2.2.2.2.2
theorem eJ6_bitCount_0f7a4 {X : mX} {n z : Nat} {G : mG} {V : mV} {a : Int} (h : 0 ≤ a ∧ a < 1024) : Rn X 0 295 [.int (iI a)] n z G V n z G V (some (.int (iI (pct a)))) := by
  refine T.toR (L := [some (.int (iI a))]) rfl ?_
  refine t_l fJ6_bitCount_0f7a4_0 rfl rfl rfl rfl ?_
  refine t_l fJ6_bitCount_0f7a4_1 rfl rfl rfl rfl ?_
  refine t_s fJ6_bitCount_0f7a4_2 rfl rfl rfl ?_
  refine t_s fJ6_bitCount_0f7a4_3 rfl rfl rfl ?_
  refine t_s fJ6_bitCount_0f7a4_4 rfl rfl rfl ?_
  refine t_s fJ6_bitCount_0f7a4_7 rfl rfl rfl ?_
  refine t_s fJ6_bitCount_0f7a4_8 rfl rfl rfl ?_
  refine t_l (L' := [some (.int (bc1 (iI a)))]) fJ6_bitCount_0f7a4_9 rfl rfl rfl rfl ?_
  refine t_l fJ6_bitCount_0f7a4_10 rfl rfl rfl rfl ?_
  refine t_s fJ6_bitCount_0f7a4_11 rfl rfl rfl ?_
  refine t_s fJ6_bitCount_0f7a4_14 rfl rfl rfl ?_
  refine t_l fJ6_bitCount_0f7a4_15 rfl rfl rfl rfl ?_
  refine t_s fJ6_bitCount_0f7a4_16 rfl rfl rfl ?_
  refine t_s fJ6_bitCount_0f7a4_17 rfl rfl rfl ?_
  refine t_s fJ6_bitCount_0f7a4_18 rfl rfl rfl ?_
  refine t_s fJ6_bitCount_0f7a4_21 rfl rfl rfl ?_
  refine t_s fJ6_bitCount_0f7a4_22 rfl rfl rfl ?_
  refine t_l (L' := [some (.int (bc2 (bc1 (iI a))))]) fJ6_bitCount_0f7a4_23 rfl rfl rfl rfl ?_
  refine t_l fJ6_bitCount_0f7a4_24 rfl rfl rfl rfl ?_
  refine t_l fJ6_bitCount_0f7a4_25 rfl rfl rfl rfl ?_
  refine t_s fJ6_bitCount_0f7a4_26 rfl rfl rfl ?_
  refine t_s fJ6_bitCount_0f7a4_27 rfl rfl rfl ?_
  refine t_s fJ6_bitCount_0f7a4_28 rfl rfl rfl ?_
  refine t_s fJ6_bitCount_0f7a4_29 rfl rfl rfl ?_
  refine t_s fJ6_bitCount_0f7a4_32 rfl rfl rfl ?_
  refine t_l (L' := [some (.int (bc3 (bc2 (bc1 (iI a)))))]) fJ6_bitCount_0f7a4_33 rfl rfl rfl rfl ?_
  refine t_l fJ6_bitCount_0f7a4_34 rfl rfl rfl rfl ?_
  refine t_l fJ6_bitCount_0f7a4_35 rfl rfl rfl rfl ?_
  refine t_s fJ6_bitCount_0f7a4_36 rfl rfl rfl ?_
  refine t_s fJ6_bitCount_0f7a4_38 rfl rfl rfl ?_
  refine t_s fJ6_bitCount_0f7a4_39 rfl rfl rfl ?_
  refine t_l (L' := [some (.int (bc4 (bc3 (bc2 (bc1 (iI a))))))]) fJ6_bitCount_0f7a4_40 rfl rfl rfl rfl ?_
  refine t_l fJ6_bitCount_0f7a4_41 rfl rfl rfl rfl ?_
  refine t_l fJ6_bitCount_0f7a4_42 rfl rfl rfl rfl ?_
  refine t_s fJ6_bitCount_0f7a4_43 rfl rfl rfl ?_
  refine t_s fJ6_bitCount_0f7a4_45 rfl rfl rfl ?_
  refine t_s fJ6_bitCount_0f7a4_46 rfl rfl rfl ?_
  refine t_l (L' := [some (.int (bc5 (bc4 (bc3 (bc2 (bc1 (iI a)))))))]) fJ6_bitCount_0f7a4_47 rfl rfl rfl rfl ?_
  refine t_l fJ6_bitCount_0f7a4_48 rfl rfl rfl rfl ?_
  refine t_s fJ6_bitCount_0f7a4_49 rfl rfl rfl ?_
  refine t_s fJ6_bitCount_0f7a4_51 rfl rfl rfl ?_
  refine t_ret fJ6_bitCount_0f7a4_52 rJ6_bitCount_0f7a4 ?_
  exact ⟨rfl, rfl, rfl, rfl, congrArg (fun x => some (Value.int x)) (bc_eq h)⟩
theorem eX5_slot {X : mX} {n z : Nat} {G : mG} {V : mV} {p : Nat} {k : Int} (hp : is5 G p) (h : 0 ≤ k ∧ k < 20) : Rn X 0 55 [.ref p, .int (iI k)] n z G V n z G V (some (.ref (p + 2 + 9 * k.toNat))) := by
  refine T.toR (L := [some (.ref p), some (.int (iI k))]) rfl ?_
  refine t_l fX5_slot_0 rfl rfl rfl rfl ?_
  refine k9_if_lt fX5_slot_1 rfl ⟨by omega, by omega⟩ (fun h1 => by omega) (fun h1 => ?_)
  refine t_l fX5_slot_4 rfl rfl rfl rfl ?_
  refine t_l fX5_slot_5 rfl rfl rfl rfl ?_
  refine k9_gr fX5_slot_6 hp.1 kg_5_0 (s5_0r hp) ?_
  refine k9_len fX5_slot_9 (s5_0s hp) (by decide) ?_
  refine k9_ic_ge fX5_slot_10 rfl ⟨by omega, by omega⟩ ⟨by omega, by omega⟩ (fun h2 => by omega) (fun h2 => ?_)
  refine t_l fX5_slot_13 rfl rfl rfl rfl ?_
  refine k9_gr fX5_slot_14 hp.1 kg_5_0 (s5_0r hp) ?_
  refine t_l fX5_slot_17 rfl rfl rfl rfl ?_
  refine k9_aa fX5_slot_18 (s5_0s hp) h.1 (by omega) (by omega) (v := .ref (p + 2 + 9 * k.toNat)) (by rw [s5_e hp k.toNat (by omega)]; rfl) ?_
  refine k9_goto fX5_slot_19 rfl ?_
  refine t_ret fX5_slot_23 rX5_slot ?_
  exact ⟨rfl, rfl, rfl, rfl, rfl⟩

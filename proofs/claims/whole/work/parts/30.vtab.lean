/-! reading what was written -/
theorem gI_sI (V : mV) (i k a b : Nat) (x : Int) : gI (sI V i k x) a b = if a = i ∧ b = k then x else gI V a b := rfl
theorem gJ_sJ (V : mV) (i k a b : Nat) (x : Int) : gJ (sJ V i k x) a b = if a = i ∧ b = k then x else gJ V a b := rfl
theorem gA_sA (V : mV) (i k a b : Nat) (x : Int) : gA (sA V i k x) a b = if a = i ∧ b = k then x else gA V a b := rfl
theorem gL_sL (V : mV) (i k a b : Nat) (x : Int) : gL (sL V i k x) a b = if a = i ∧ b = k then x else gL V a b := rfl
theorem gA_sF (V : mV) (i : Nat) (g : Nat → Int) (a b : Nat) : gA (sF V i g) a b = if a = i then g b else gA V a b := by
  simp only [gA, sF, uF]; split <;> rfl
theorem gI_sJ (V : mV) (i k : Nat) (x : Int) : gI (sJ V i k x) = gI V := rfl
theorem gI_sA (V : mV) (i k : Nat) (x : Int) : gI (sA V i k x) = gI V := rfl
theorem gI_sL (V : mV) (i k : Nat) (x : Int) : gI (sL V i k x) = gI V := rfl
theorem gI_sF (V : mV) (i : Nat) (g : Nat → Int) : gI (sF V i g) = gI V := rfl
theorem gJ_sI (V : mV) (i k : Nat) (x : Int) : gJ (sI V i k x) = gJ V := rfl
theorem gJ_sA (V : mV) (i k : Nat) (x : Int) : gJ (sA V i k x) = gJ V := rfl
theorem gJ_sL (V : mV) (i k : Nat) (x : Int) : gJ (sL V i k x) = gJ V := rfl
theorem gJ_sF (V : mV) (i : Nat) (g : Nat → Int) : gJ (sF V i g) = gJ V := rfl
theorem gA_sI (V : mV) (i k : Nat) (x : Int) : gA (sI V i k x) = gA V := rfl
theorem gA_sJ (V : mV) (i k : Nat) (x : Int) : gA (sJ V i k x) = gA V := rfl
theorem gA_sL (V : mV) (i k : Nat) (x : Int) : gA (sL V i k x) = gA V := rfl
theorem gL_sI (V : mV) (i k : Nat) (x : Int) : gL (sI V i k x) = gL V := rfl
theorem gL_sJ (V : mV) (i k : Nat) (x : Int) : gL (sJ V i k x) = gL V := rfl
theorem gL_sA (V : mV) (i k : Nat) (x : Int) : gL (sA V i k x) = gL V := rfl
theorem gL_sF (V : mV) (i : Nat) (g : Nat → Int) : gL (sF V i g) = gL V := rfl
theorem sF_id {V : mV} {i : Nat} {g : Nat → Int} (h : ∀ b, g b = gA V i b) : sF V i g = V := by
  show (V.1, V.2.1, uF V.2.2.1 i g, V.2.2.2) = V
  have e : uF V.2.2.1 i g = V.2.2.1 := by
    funext a
    by_cases ha : a = i
    · subst ha; funext b; simp [uF, h b, gA]
    · simp [uF, ha]
  rw [e]
theorem sF_sA {V : mV} {i k : Nat} {x : Int} {g : Nat → Int} : sF (sA V i k x) i g = sF V i g := by
  have e : uF (u2 V.2.2.1 i k x) i g = uF V.2.2.1 i g := by
    funext a
    by_cases ha : a = i
    · simp [uF, ha]
    · funext b; simp [uF, ha, u2]
  show (V.1, V.2.1, uF (u2 V.2.2.1 i k x) i g, V.2.2.2) = (V.1, V.2.1, uF V.2.2.1 i g, V.2.2.2)
  rw [e]
theorem sF_cg {V : mV} {i : Nat} {g h : Nat → Int} (e : ∀ b, g b = h b) : sF V i g = sF V i h := by rw [funext e]
theorem sA_sF {V : mV} {i k : Nat} {x : Int} : sA V i k x = sF V i (fun b => if b = k then x else gA V i b) := by
  show (V.1, V.2.1, u2 V.2.2.1 i k x, V.2.2.2) = (V.1, V.2.1, uF V.2.2.1 i _, V.2.2.2)
  have e : u2 V.2.2.1 i k x = uF V.2.2.1 i (fun b => if b = k then x else gA V i b) := by
    funext a b
    by_cases ha : a = i
    · subst ha; simp [uF, u2, gA]
    · simp [uF, u2, ha]
  rw [e]
theorem sF_sF {V : mV} {i : Nat} {g h : Nat → Int} : sF (sF V i g) i h = sF V i h := by
  have e : uF (uF V.2.2.1 i g) i h = uF V.2.2.1 i h := by
    funext a
    by_cases ha : a = i
    · simp [uF, ha]
    · simp [uF, ha]
  show (V.1, V.2.1, uF (uF V.2.2.1 i g) i h, V.2.2.2) = (V.1, V.2.1, uF V.2.2.1 i h, V.2.2.2)
  rw [e]
/-- all numbers are ints -/
def wV (V : mV) : Prop := (∀ i k, rg (gI V i k)) ∧ (∀ i k, rg (gA V i k))
theorem wV.sI {V : mV} (h : wV V) (i k : Nat) {x : Int} (hx : rg x) : wV (sI V i k x) := ⟨fun a b => by rw [gI_sI]; split; exact hx; exact h.1 a b, h.2⟩
theorem wV.sA {V : mV} (h : wV V) (i k : Nat) {x : Int} (hx : rg x) : wV (sA V i k x) := ⟨h.1, fun a b => by rw [gA_sA]; split; exact hx; exact h.2 a b⟩
theorem wV.sF {V : mV} (h : wV V) (i : Nat) {g : Nat → Int} (hx : ∀ b, rg (g b)) : wV (sF V i g) := ⟨h.1, fun a b => by rw [gA_sF]; split; exact hx b; exact h.2 a b⟩
theorem wV.sJ {V : mV} (h : wV V) (i k : Nat) {x : Int} : wV (sJ V i k x) := h
theorem wV.sL {V : mV} (h : wV V) (i k : Nat) {x : Int} : wV (sL V i k x) := h
theorem ans {a b : Int} (h : a = b) : some (Value.int (iI a)) = some (.int (iI b)) := by rw [h]
theorem ansL {a b : Int} (h : a = b) : some (Value.long (lI a)) = some (.long (lI b)) := by rw [h]
/-- a row: its cells behind it -/
def isR (G : mG) (r cap : Nat) : Prop := G.1 r = .inl 7 ∧ G.2.1 r 0 = .ref (r + 1) ∧ G.1 (r + 1) = .inr (0, cap) ∧ cap ≤ 2000
/-- its size is right -/
def szR (V : mV) (r cap : Nat) : Prop := 0 ≤ gI V r 1 ∧ gI V r 1 ≤ (cap : Int)
def rget (V : mV) (r : Nat) (k : Int) : Int := if 0 ≤ k ∧ k < gI V r 1 then gA V (r + 1) k.toNat else -1
def rput (V : mV) (r : Nat) (k v : Int) : mV := if 0 ≤ k ∧ k < gI V r 1 then sA V (r + 1) k.toNat v else V
def radd (V : mV) (r cap : Nat) (v : Int) : mV := if gI V r 1 < (cap : Int) then sI (sA V (r + 1) (gI V r 1).toNat v) r 1 (gI V r 1 + 1) else V
def rcut (V : mV) (r : Nat) (k : Int) : mV := if 0 ≤ k ∧ k < gI V r 1 then sI V r 1 k else V
def rset (V : mV) (r : Nat) (m : Int) (f : Nat → Int) : mV := sF V (r + 1) (fun j => if (j : Int) < m then f j else gA V (r + 1) j)
def rfill (V : mV) (r cap : Nat) (k v : Int) : mV := rset (sI V r 1 (min (max k 0) cap)) r (min (max k 0) cap) (fun _ => v)
def rcopy (V : mV) (r cap o : Nat) : mV := rset (sI V r 1 (min (gI V o 1) cap)) r (min (gI V o 1) cap) (fun j => gA V (o + 1) j)
def fnd (f : Nat → Int) (v : Int) : Int → Nat → Int
  | _, 0 => -1
  | k, m + 1 => if f k.toNat = v then k else fnd f v (k + 1) m
def cnt (f : Nat → Int) (v : Int) : Int → Nat → Int
  | _, 0 => 0
  | k, m + 1 => (if f k.toNat = v then 1 else 0) + cnt f v (k + 1) m
theorem cnt_rg (f : Nat → Int) (v : Int) (m : Nat) : ∀ k, 0 ≤ cnt f v k m ∧ cnt f v k m ≤ m := by
  induction m with
  | zero => intro k; exact ⟨Int.le_refl _, Int.le_refl _⟩
  | succ m ih => intro k; have := ih (k + 1); unfold cnt; split <;> omega

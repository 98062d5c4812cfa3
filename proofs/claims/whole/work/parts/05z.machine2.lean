-- ---- one step
def a_b2 (g : Int32 → Int32 → Option Value) : List Value → Option (List Value)
  | .int y :: .int x :: r => (g x y).map (· :: r)
  | _ => none
def a_j2 (g : Int64 → Int64 → Option Value) : List Value → Option (List Value)
  | .long y :: .long x :: r => (g x y).map (· :: r)
  | _ => none
def a_u1 (g : Value → Option Value) : List Value → Option (List Value)
  | x :: r => (g x).map (· :: r)
  | _ => none
def a_one : Value → Bool
  | .int _ | .ref _ | .null | .retAddr _ => true
  | _ => false
def a_stk (i : mI) (st : List Value) : Option (List Value) :=
  match i with
  | .iconst v => some (.int (Int32.ofInt v) :: st)
  | .jsr_w v => some (.long (Int64.ofInt v) :: st)
  | .ret k => some (.retAddr k :: st)
  | .aconst_null => some (.null :: st)
  | .iadd => a_b2 (fun x y => some (.int (x + y))) st
  | .isub => a_b2 (fun x y => some (.int (x - y))) st
  | .imul => a_b2 (fun x y => some (.int (x * y))) st
  | .idiv => a_b2 (fun x y => if y = 0 then none else some (.int (x / y))) st
  | .irem => a_b2 (fun x y => if y = 0 then none else some (.int (x - x / y * y))) st
  | .iand => a_b2 (fun x y => some (.int (x &&& y))) st
  | .ior => a_b2 (fun x y => some (.int (x ||| y))) st
  | .ixor => a_b2 (fun x y => some (.int (x ^^^ y))) st
  | .ishl => a_b2 (fun x y => some (.int (x <<< (y &&& 31)))) st
  | .ishr => a_b2 (fun x y => some (.int (x >>> (y &&& 31)))) st
  | .iushr => a_b2 (fun x y => some (.int (x.toUInt32 >>> (y.toUInt32 &&& Int32.toUInt32 31)).toInt32)) st
  | .ladd => a_j2 (fun x y => some (.long (x + y))) st
  | .lsub => a_j2 (fun x y => some (.long (x - y))) st
  | .lmul => a_j2 (fun x y => some (.long (x * y))) st
  | .ldiv => a_j2 (fun x y => if y = 0 then none else some (.long (x / y))) st
  | .lrem => a_j2 (fun x y => if y = 0 then none else some (.long (x - x / y * y))) st
  | .land => a_j2 (fun x y => some (.long (x &&& y))) st
  | .lcmp => a_j2 (fun x y => some (.int (lg_cmp x y))) st
  | .lshr => match st with
    | .int y :: .long x :: r => some (.long (x >>> (y.toInt64 &&& 63)) :: r)
    | _ => none
  | .ineg => a_u1 (fun v => match v with
    | .int x => some (.int (-x))
    | _ => none) st
  | .i2l => a_u1 (fun v => match v with
    | .int x => some (.long x.toInt64)
    | _ => none) st
  | .l2i => a_u1 (fun v => match v with
    | .long x => some (.int x.toInt32)
    | _ => none) st
  | .i2c => a_u1 (fun v => match v with
    | .int x => some (.int (x.toUInt32 % 65536).toInt32)
    | _ => none) st
  | .fneg => a_u1 (fun v => match v with
    | .retAddr 1 => some (.retAddr 11)
    | .retAddr 2 => some (.retAddr 12)
    | _ => none) st
  | .dneg => a_u1 (fun v => match v with
    | .retAddr 1 => some (.int 0)
    | .retAddr 2 => some (.int 0)
    | _ => none) st
  | .dup => match st with
    | v :: r => if a_one v = true then some (v :: v :: r) else none
    | _ => none
  | .dup2 => match st with
    | .long x :: r => some (.long x :: .long x :: r)
    | v :: w :: r => if a_one v = true ∧ a_one w = true then some (v :: w :: v :: w :: r) else none
    | _ => none
  | .pop => match st with
    | v :: r => if a_one v = true then some r else none
    | _ => none
  | .monitorenter => match st with
    | .ref _ :: r => if (r.map fun v => v.category).sum ≤ 8 then some r else none
    | _ => none
  | _ => none
def a_vin (i : Int32) (n : Nat) : Bool := !(decide (i < 0) || decide (n ≤ i.toNatClampNeg))
def a_fit : FieldType → Value → Bool
  | .int, .int _ => true
  | .long, .long _ => true
  | .boolean, .int x => x == 0 || x == 1
  | .object _, .ref _ => true
  | .object _, .null => true
  | .array _, .ref _ => true
  | .array _, .null => true
  | _, _ => false
-- reads of the memory and of what lies outside
def a_rd (X : mX) (i : mI) (st : List Value) (M : mM) : Option (List Value) :=
  match i with
  | .invokeinterface c k => match st with
    | .ref a :: r => match M a with
      | .inr (c', fs) => if c' = c then match fs[k]? with
        | some v => some (v :: r)
        | none => none else none
      | _ => none
    | _ => none
  | .arraylength => match st with
    | .ref a :: r => match M a with
      | .inl (k, n, _) => if k < 4 then some (.int (Int32.ofNat n) :: r) else none
      | _ => none
    | .retAddr 0 :: r => match X with
      | some x => some (.int (Int32.ofNat x.1) :: r)
      | none => none
    | .retAddr 11 :: r => some (.int 123 :: r)
    | .retAddr 12 :: r => some (.int 50 :: r)
    | _ => none
  | .iaload => match st with
    | .int j :: .ref a :: r => match M a with
      | .inl (0, n, .inl f) => if a_vin j n = true then some (.int (f j.toNatClampNeg) :: r) else none
      | _ => none
    | .int j :: .retAddr 0 :: r => match X with
      | some x => if a_vin j x.1 = true then some (.int (x.2 j.toNatClampNeg) :: r) else none
      | none => none
    | _ => none
  | .caload => match st with
    | .int j :: .ref a :: r => match M a with
      | .inl (1, n, .inl f) => if a_vin j n = true then some (.int (f j.toNatClampNeg) :: r) else none
      | _ => none
    | _ => none
  | .laload => match st with
    | .int j :: .ref a :: r => match M a with
      | .inl (2, n, .inr (.inl f)) => if a_vin j n = true then some (.long (f j.toNatClampNeg) :: r) else none
      | _ => none
    | _ => none
  | .aaload => match st with
    | .int j :: .ref a :: r => match M a with
      | .inl (3, n, .inr (.inr (.inr (.inr f)))) => if a_vin j n = true then some (va_rf (f j.toNatClampNeg) :: r) else none
      | _ => none
    | _ => none
  | .baload => match st with
    | .int j :: .retAddr 11 :: r => if a_vin j 123 = true then some (.int (a_tx.getD j.toNatClampNeg 0) :: r) else none
    | .int j :: .retAddr 12 :: r => if a_vin j 50 = true then some (.int (a_ty2.getD j.toNatClampNeg 0) :: r) else none
    | _ => none
  | _ => none
-- writes
def a_wr (i : mI) (st : List Value) (M : mM) : Option (List Value × mM) :=
  match i with
  | .multianewarray c k => match st with
    | v :: .ref a :: r => match M a with
      | .inr (c', fs) => if c' = c ∧ k < fs.length ∧ a_fit (a_ty.getD c (fun _ => .int) k) v = true then some (r, a_up M a (.inr (c, fs.set k v))) else none
      | _ => none
    | _ => none
  | .iastore => match st with
    | .int x :: .int j :: .ref a :: r => match M a with
      | .inl (0, n, .inl f) => if a_vin j n = true then some (r, a_up M a (.inl (0, n, .inl (upd f j.toNatClampNeg x)))) else none
      | _ => none
    | _ => none
  | .castore => match st with
    | .int x :: .int j :: .ref a :: r => match M a with
      | .inl (1, n, .inl f) => if a_vin j n = true then some (r, a_up M a (.inl (1, n, .inl (upd f j.toNatClampNeg (vp_nar .char x))))) else none
      | _ => none
    | _ => none
  | .lastore => match st with
    | .long x :: .int j :: .ref a :: r => match M a with
      | .inl (2, n, .inr (.inl f)) => if a_vin j n = true then some (r, a_up M a (.inl (2, n, .inr (.inl (vp_updL f j.toNatClampNeg x))))) else none
      | _ => none
    | _ => none
  | .aastore => match st with
    | .ref v :: .int j :: .ref a :: r => match M v, M a with
      | .inr (4, _), .inl (3, n, .inr (.inr (.inr (.inr f)))) => if a_vin j n = true then some (r, a_up M a (.inl (3, n, .inr (.inr (.inr (.inr (va_up f j.toNatClampNeg (some v)))))))) else none
      | _, _ => none
    | _ => none
  | _ => none
-- new cells: the class's fields as they begin
def a_d0 : FieldType → Value
  | .int => .int 0
  | .boolean => .int 0
  | .long => .long 0
  | _ => .null
def a_fs0 (c : Nat) : List Value := match a_cl[c]? with
  | some r => (List.range r.2.2).map (fun k => a_d0 (a_ty.getD c (fun _ => .int) k))
  | none => []
def a_nw (i : mI) (st : List Value) (n : Nat) : Option (List Value × mC × Nat) :=
  match i with
  | .new c => match a_cl[c]? with
    | some r => some (.ref n :: st, .inr (c, a_fs0 c), r.2.2)
    | none => none
  | .newarray .int => match st with
    | .int k :: r => if ¬ k < 0 ∧ k.toNatClampNeg ≤ 100000 then some (.ref n :: r, .inl (0, k.toNatClampNeg, .inl (fun _ => 0)), k.toNatClampNeg) else none
    | _ => none
  | .newarray .char => match st with
    | .int k :: r => if ¬ k < 0 ∧ k.toNatClampNeg ≤ 100000 then some (.ref n :: r, .inl (1, k.toNatClampNeg, .inl (fun _ => 0)), k.toNatClampNeg) else none
    | _ => none
  | .newarray .long => match st with
    | .int k :: r => if ¬ k < 0 ∧ k.toNatClampNeg ≤ 100000 then some (.ref n :: r, .inl (2, k.toNatClampNeg, .inr (.inl (fun _ => 0))), k.toNatClampNeg) else none
    | _ => none
  | .anewarray 4 => match st with
    | .int k :: r => if ¬ k < 0 ∧ k.toNatClampNeg ≤ 100000 then some (.ref n :: r, .inl (3, k.toNatClampNeg, .inr (.inr (.inr (.inr (fun _ => none))))), k.toNatClampNeg) else none
    | _ => none
  | _ => none
-- locals
def a_lo (i : mI) (L : mL) (st : List Value) : Option (mL × List Value) :=
  match i with
  | .iload k => match a_lg L k with
    | some (.int x) => some (L, .int x :: st)
    | _ => none
  | .lload k => match a_lg L k with
    | some (.long x) => some (L, .long x :: st)
    | _ => none
  | .aload k => match a_lg L k with
    | some (.ref x) => some (L, .ref x :: st)
    | some .null => some (L, .null :: st)
    | some (.retAddr x) => some (L, .retAddr x :: st)
    | _ => none
  | .istore k => match st with
    | .int x :: r => if k < L.length then some (a_s1 L k (.int x), r) else none
    | _ => none
  | .astore k => match st with
    | .ref x :: r => if k < L.length then some (a_s1 L k (.ref x), r) else none
    | .null :: r => if k < L.length then some (a_s1 L k .null, r) else none
    | _ => none
  | .lstore k => match st with
    | .long x :: r => if k + 1 < L.length then some (a_s2 L k (.long x), r) else none
    | _ => none
  | .iinc k v => match a_lg L k with
    | some (.int x) => if k < L.length then some (a_s1 L k (.int (x + Int32.ofInt v)), st) else none
    | _ => none
  | _ => none
-- branches
def a_tb (c : Jvm.ClassFile.Cond) (x y : Int32) : Bool := match c with
  | .eq => decide (x = y)
  | .ne => !decide (x = y)
  | .lt => decide (x < y)
  | .ge => decide (y ≤ x)
  | .gt => decide (y < x)
  | .le => decide (x ≤ y)
def a_br (i : mI) (nx : Nat) (st : List Value) : Option (Nat × List Value) :=
  match i with
  | .ifCond c t => match st with
    | .int x :: r => some (if a_tb c x 0 = true then t.toNat else nx, r)
    | _ => none
  | .if_icmp c t => match st with
    | .int y :: .int x :: r => some (if a_tb c x y = true then t.toNat else nx, r)
    | _ => none
  | .goto t => some (t.toNat, st)
  | .ifnull t => match st with
    | .ref _ :: r => some (nx, r)
    | .null :: r => some (t.toNat, r)
    | _ => none
  | .ifnonnull t => match st with
    | .ref _ :: r => some (t.toNat, r)
    | .null :: r => some (nx, r)
    | _ => none
  | .tableswitch d lo hi offs => match st with
    | .int x :: r => if x.toInt < lo ∨ hi < x.toInt then some (d.toNat, r) else match offs[(x.toInt - lo).toNat]? with
      | some o => some (o.toNat, r)
      | none => none
    | _ => none
  | .lookupswitch d _ => match st with
    | .int _ :: r => some (d.toNat, r)
    | _ => none
  | _ => none
abbrev mS : Type := Nat × mL × List Value × Nat × Nat × mM
def a_stp (X : mX) (i : mI) (nx : Nat) (L : mL) (st : List Value) (n z : Nat) (M : mM) : Option mS :=
  match a_stk i st with
  | some st' => some (nx, L, st', n, z, M)
  | none => match a_lo i L st with
    | some q => some (nx, q.1, q.2, n, z, M)
    | none => match a_rd X i st M with
      | some st' => some (nx, L, st', n, z, M)
      | none => match a_wr i st M with
        | some q => some (nx, L, q.1, n, z, q.2)
        | none => match a_nw i st n with
          | some q => some (nx, L, q.1, n + 1, z + q.2.2, a_up M n q.2.1)
          | none => match a_br i nx st with
            | some q => some (q.1, L, q.2, n, z, M)
            | none => none
-- ---- calls and returns
def a_rst (st : List Value) : Bool := decide ((st.map fun v => v.category).sum ≤ 8)
def a_r12 (st : List Value) : Bool := decide ((st.map fun v => v.category).sum ≤ 12)
def a_call (i : mI) (st : List Value) (M : mM) : Option (Nat × List Value × List Value) :=
  match i with
  | .invokestatic y => match a_sg[y]? with
    | some (n, 0) => if n ≤ st.length ∧ a_rst (st.drop n) = true then some (y, (st.take n).reverse, st.drop n) else none
    | _ => none
  | .invokespecial y => match a_sg[y]? with
    | some (n, 2) => match st.drop n with
      | .ref a :: r => if a_rst r = true then some (y, .ref a :: (st.take n).reverse, r) else none
      | _ => none
    | _ => none
  | .invokevirtual y => match a_sg[y]?, a_mt[y]? with
    | some (n, 1), some m => match st.drop n with
      | .ref a :: r => match M a with
        | .inr (c, _) => if c = m.2.2.2.2 ∧ c < 11 ∧ a_r12 r = true then some (y, .ref a :: (st.take n).reverse, r) else none
        | _ => none
      | .retAddr 1 :: r => if m.2.2.2.2 = 14 ∧ a_rst r = true then some (y, .retAddr 1 :: (st.take n).reverse, r) else none
      | .retAddr 2 :: r => if m.2.2.2.2 = 14 ∧ a_rst r = true then some (y, .retAddr 2 :: (st.take n).reverse, r) else none
      | _ => none
    | _, _ => none
  | _ => none
def a_ret (y : Nat) (i : mI) (st : List Value) : Option (Option Value) :=
  match i with
  | .ireturn => match st, a_mt[y]? with
    | [.int x], some m => match m.2.2.2.1 with
      | some .int => some (some (.int x))
      | some .boolean => if x = 0 ∨ x = 1 then some (some (.int x)) else none
      | some .byte => if x = 0 ∨ x = 1 then some (some (.int x)) else none
      | some .char => if (narrow .char (.int x)) = .int x then some (some (.int x)) else none
      | _ => none
    | _, _ => none
  | .lreturn => match st, a_mt[y]? with
    | [.long x], some m => match m.2.2.2.1 with
      | some .long => some (some (.long x))
      | _ => none
    | _, _ => none
  | .areturn => match st, a_mt[y]? with
    | [.ref x], some m => match m.2.2.2.1 with
      | some (.object _) => some (some (.ref x))
      | _ => none
    | [.null], some m => match m.2.2.2.1 with
      | some (.object _) => some (some .null)
      | _ => none
    | _, _ => none
  | .return_ => match st, a_mt[y]? with
    | [], some m => match m.2.2.2.1 with
      | none => some none
      | _ => none
    | _, _ => none
  | _ => none
abbrev mR : Type := Nat × Nat × mM × Option Value
def a_mx (y : Nat) : Nat := match a_mt[y]? with
  | some m => m.2.2.1
  | none => 0
def a_run (X : mX) : Nat → Nat → Nat → Nat → mL → List Value → Nat → Nat → mM → Option mR
  | 0, _, _, _, _, _, _, _, _ => none
  | f + 1, d, y, pc, L, st, n, z, M => match a_fetch y pc with
    | none => none
    | some q => match a_ret y q.1 st with
      | some v => some (n, z, M, v)
      | none => match a_call q.1 st M with
        | some c => match d with
          | 0 => none
          | d + 1 => match (if (a_lay c.2.1).length ≤ a_mx c.1 then a_run X f d c.1 0 (a_ent (a_mx c.1) c.2.1) [] n z M else none) with
            | none => none
            | some r => a_run X f (d + 1) y q.2 L (r.2.2.2.toList ++ c.2.2) r.1 r.2.1 r.2.2.1
        | none => match a_stp X q.1 q.2 L st n z M with
          | none => none
          | some t => a_run X f d y t.1 t.2.1 t.2.2.1 t.2.2.2.1 t.2.2.2.2.1 t.2.2.2.2.2

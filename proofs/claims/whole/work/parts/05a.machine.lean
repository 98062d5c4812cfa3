/-! THE SMALL MACHINE: an interpreter over numbered cells, for the instructions that this claim's methods use. A reference is the number of its cell (.ref i); .retAddr k stands for what lies outside: 0 the script, 1 and 2 two text constants, 11 and 12 their bytes, 20 a static that is never looked into. -/
abbrev mI : Type := Jvm.ClassFile.Instr
abbrev mC : Type := (Nat × vp_A) ⊕ (Nat × List Value)
abbrev mM : Type := Nat → mC
abbrev mL : Type := List (Option Value)
abbrev mX : Type := Option (Nat × (Nat → Int32))
def a_up (M : mM) (a : Nat) (c : mC) : mM := fun j => if j = a then c else M j
def a_lg : mL → Nat → Option Value
  | [], _ => none
  | o :: _, 0 => o
  | _ :: t, k + 1 => a_lg t k
def a_dp : Option Value → Option Value
  | some (.long _) => none
  | some (.double _) => none
  | o => o
def a_s1 : mL → Nat → Value → mL
  | [], _, _ => []
  | _ :: t, 0, v => some v :: t
  | o :: t, 1, v => a_dp o :: a_s1 t 0 v
  | o :: t, k + 2, v => o :: a_s1 t (k + 1) v
def a_s2 : mL → Nat → Value → mL
  | [], _, _ => []
  | [_], 0, v => [some v]
  | _ :: _ :: t, 0, v => some v :: none :: t
  | o :: t, 1, v => a_dp o :: a_s2 t 0 v
  | o :: t, k + 2, v => o :: a_s2 t (k + 1) v
def a_lay : List Value → mL
  | [] => []
  | .long x :: t => some (.long x) :: none :: a_lay t
  | .double x :: t => some (.double x) :: none :: a_lay t
  | v :: t => some v :: a_lay t
def a_ent (n : Nat) (as : List Value) : mL := a_lay as ++ List.replicate (n - (a_lay as).length) none
def a_lk {α : Type} : List (Nat × α) → Nat → Option α
  | [], _ => none
  | (i, x) :: t, k => if k = i then some x else a_lk t k
def a_tx : List Int32 := [112, 101, 114, 115, 111, 110, 32, 119, 97, 114, 100, 32, 116, 97, 115, 107, 32, 104, 97, 114, 100, 32, 100, 111, 101, 115, 32, 97, 116, 32, 99, 111, 118, 101, 114, 115, 32, 107, 110, 111, 119, 115, 32, 108, 101, 97, 114, 110, 32, 102, 111, 114, 103, 101, 116, 32, 99, 97, 110, 32, 110, 111, 116, 105, 99, 101, 32, 99, 108, 111, 99, 107, 32, 100, 97, 121, 32, 112, 111, 105, 110, 116, 115, 32, 115, 97, 109, 101, 32, 111, 119, 110, 32, 116, 104, 101, 105, 114, 115, 32, 111, 114, 32, 97, 110, 100, 32, 110, 111, 116, 32, 97, 108, 108, 32, 109, 105, 110, 32, 109, 97, 120, 32]
def a_ty2 : List Int32 := [102, 105, 114, 115, 116, 32, 108, 97, 115, 116, 32, 111, 102, 116, 101, 110, 32, 116, 111, 116, 97, 108, 32, 109, 111, 115, 116, 32, 108, 101, 97, 115, 116, 32, 104, 111, 117, 114, 32, 108, 105, 102, 101, 32, 100, 114, 105, 101, 115, 32]
def a_byt : List (List Int32) := [a_tx, a_ty2]
def a_len : List Nat := [123, 50]
-- ---- an instruction with its constant pool's entries and its targets put in
def a_c1 (n len pc : Nat) (i : mI) : Option (mI × Nat) := if len = n then some (i, pc + n) else none
def a_tg (pc : Nat) (off : Int) (f : Int → mI) : Option (mI × Nat) := if 0 ≤ (pc : Int) + off then some (f ((pc : Int) + off), pc + 3) else none
def a_rsv (m : mT) (pc : Nat) (i : mI) (len : Nat) : Option (mI × Nat) :=
  match i with
  | .iload_n k => a_c1 1 len pc (.iload k)
  | .lload_n k => a_c1 1 len pc (.lload k)
  | .aload_n k => a_c1 1 len pc (.aload k)
  | .istore_n k => a_c1 1 len pc (.istore k)
  | .lstore_n k => a_c1 1 len pc (.lstore k)
  | .astore_n k => a_c1 1 len pc (.astore k)
  | .iload k => a_c1 2 len pc (.iload k)
  | .lload k => a_c1 2 len pc (.lload k)
  | .aload k => a_c1 2 len pc (.aload k)
  | .istore k => a_c1 2 len pc (.istore k)
  | .lstore k => a_c1 2 len pc (.lstore k)
  | .astore k => a_c1 2 len pc (.astore k)
  | .iconst v => a_c1 1 len pc (.iconst (Int32.ofInt v).toInt)
  | .bipush v => a_c1 2 len pc (.iconst (Int8.ofInt v).toInt32.toInt)
  | .sipush v => a_c1 3 len pc (.iconst (Int16.ofInt v).toInt32.toInt)
  | .lconst v => a_c1 1 len pc (.jsr_w (Int64.ofNat (v : Nat)).toInt)
  | .ldc k => match a_lk (a_pI.getD m.2.2.2.2 []) k with
    | some v => a_c1 2 len pc (.iconst (Int32.ofInt v).toInt)
    | none => if m.2.2.2.2 = 6 ∧ k = 49 then a_c1 2 len pc (.ret 1) else if m.2.2.2.2 = 6 ∧ k = 55 then a_c1 2 len pc (.ret 2) else none
  | .ldc_w k => match a_lk (a_pI.getD m.2.2.2.2 []) k with
    | some v => a_c1 3 len pc (.iconst (Int32.ofInt v).toInt)
    | none => none
  | .ldc2_w k => match a_lk (a_pJ.getD m.2.2.2.2 []) k with
    | some v => a_c1 3 len pc (.jsr_w (Int64.ofInt v).toInt)
    | none => none
  | .getstatic k => if m.2.2.2.2 = 14 ∧ k = 38 then a_c1 3 len pc (.iconst 1) else if m.2.2.2.2 = 14 ∧ k = 1053 then a_c1 3 len pc (.ret 20) else none
  | .getfield k => match a_lk (a_pF.getD m.2.2.2.2 []) k with
    | some q => a_c1 3 len pc (.invokeinterface q.1 q.2)
    | none => if m.2.2.2.2 = 14 ∧ k = 9 then a_c1 3 len pc .fneg else if m.2.2.2.2 = 14 ∧ k = 15 then a_c1 3 len pc .dneg else none
  | .putfield k => match a_lk (a_pF.getD m.2.2.2.2 []) k with
    | some q => match a_cl[q.1]? with
      | some r => if (r.2.1 q.2).2.2.2 = false ∨ (m.1.name = "<init>" ∧ m.2.2.2.2 = q.1) then a_c1 3 len pc (.multianewarray q.1 q.2) else none
      | none => none
    | none => none
  | .invokestatic k => match a_lk (a_pM.getD m.2.2.2.2 []) k with
    | some y => a_c1 3 len pc (.invokestatic y)
    | none => none
  | .invokevirtual k => match a_lk (a_pM.getD m.2.2.2.2 []) k with
    | some y => a_c1 3 len pc (.invokevirtual y)
    | none => none
  | .invokespecial k => if k ∈ a_pO.getD m.2.2.2.2 [] then a_c1 3 len pc .monitorenter else match a_lk (a_pM.getD m.2.2.2.2 []) k with
    | some y => a_c1 3 len pc (.invokespecial y)
    | none => match a_lk (a_pN.getD m.2.2.2.2 []) k with
      | some y => a_c1 3 len pc (.invokespecial y)
      | none => none
  | .new k => match a_lk (a_pC.getD m.2.2.2.2 []) k with
    | some c => a_c1 3 len pc (.new c)
    | none => none
  | .anewarray k => if m.2.2.2.2 = 5 ∧ k = 9 then a_c1 3 len pc (.anewarray 4) else none
  | .newarray t => a_c1 2 len pc (.newarray t)
  | .iinc k v => a_c1 3 len pc (.iinc k (Int32.ofInt v).toInt)
  | .ifCond c off => if len = 3 then a_tg pc off (.ifCond c) else none
  | .if_icmp c off => if len = 3 then a_tg pc off (.if_icmp c) else none
  | .goto off => if len = 3 then a_tg pc off .goto else none
  | .ifnull off => if len = 3 then a_tg pc off .ifnull else none
  | .ifnonnull off => if len = 3 then a_tg pc off .ifnonnull else none
  | .tableswitch d lo hi offs => if 0 ≤ (pc : Int) + d ∧ offs.toList.all (fun o => decide (0 ≤ (pc : Int) + o)) = true then some (.tableswitch ((pc : Int) + d) lo hi (offs.map (fun o => (pc : Int) + o)), pc + len) else none
  | .lookupswitch d ps => if 0 ≤ (pc : Int) + d ∧ ps.toList = [] then some (.lookupswitch ((pc : Int) + d) #[], pc + len) else none
  | .dup | .dup2 | .pop | .arraylength | .iaload | .laload | .caload | .aaload | .baload | .iastore | .lastore | .castore | .aastore
  | .iadd | .isub | .imul | .idiv | .irem | .iand | .ior | .ixor | .ishl | .ishr | .iushr | .ineg
  | .ladd | .lsub | .lmul | .ldiv | .lrem | .land | .lshr | .lcmp | .i2l | .l2i | .i2c
  | .ireturn | .lreturn | .areturn | .return_ | .aconst_null => a_c1 1 len pc i
  | _ => none
def a_fetch (y pc : Nat) : Option (mI × Nat) :=
  match a_mt[y]? with
  | none => none
  | some m => match decode m.2.1 pc with
    | .ok q => a_rsv m pc q.1 q.2
    | .error _ => none
def a_fm (m : mT) (pc : Nat) : Option (mI × Nat) := match decode m.2.1 pc with
  | .ok q => a_rsv m pc q.1 q.2
  | .error _ => none
theorem fet {y pc : Nat} {m : mT} (h : a_mt[y]? = some m) : a_fetch y pc = a_fm m pc := by unfold a_fetch a_fm; rw [h]

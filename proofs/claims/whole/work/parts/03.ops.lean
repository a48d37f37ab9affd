/-! MY OWN: a small machine over whole numbers. A value: a whole number (an int), a whole number (a long), a place of the world. -/
abbrev pg_V : Type := Int ⊕ (Int ⊕ Nat)
abbrev pg_H : Type := Nat → Nat → Int
abbrev pg_L : Type := List (Nat × pg_V)
/-- pc, locals, stack, heap -/
abbrev pg_St : Type := Nat × pg_L × List pg_V × pg_H
/-- a method: name, bytes, locals, answer, number of its class, frames, words of locals, instructions -/
abbrev pg_M : Type := MethodName × ByteArray × Nat × Option FieldType × Nat × Nat × Nat × List (Nat × Instr × Nat)
/-- a cell: 0 ints, 1 booleans, 2 longs (its length), 3 an object (its class; of each field 0 int, 1 boolean, 2 long, r + 3 place r) -/
abbrev pg_Ce : Type := Nat × Nat × List Nat
def pg_I (z : Int) : Int32 := Int32.ofInt z
def pg_J (z : Int) : Int64 := Int64.ofInt z
def pg_inR (z : Int) : Prop := -2147483648 ≤ z ∧ z ≤ 2147483647
def pg_inL (z : Int) : Prop := -9223372036854775808 ≤ z ∧ z ≤ 9223372036854775807
def pg_all : List Prop → Prop
  | [] => True
  | p :: r => match r with
    | [] => p
    | _ :: _ => p ∧ pg_all r
def pg_nth {α : Type} : List α → Nat → Option α
  | [], _ => none
  | a :: _, 0 => some a
  | _ :: r, k + 1 => pg_nth r k
def pg_up (h : pg_H) (q i : Nat) (z : Int) : pg_H := fun q' => bif Nat.beq q' q then (fun i' => bif Nat.beq i' i then z else h q i') else h q'
def pg_isL : pg_V → Bool
  | .inl _ => false
  | .inr (.inl _) => true
  | .inr (.inr _) => false
def pg_get : pg_L → Nat → Option pg_V
  | [], _ => none
  | (j, v) :: r, i => bif Nat.beq j i then some v else pg_get r i
/-- may the entry (j, w) stay when place i gets v -/
def pg_stays (j : Nat) (w : pg_V) (i : Nat) (v : pg_V) : Bool := !(Nat.beq j i) && (!(pg_isL v && Nat.beq j (i + 1)) && !(Nat.beq (j + 1) i && pg_isL w))
def pg_del : pg_L → Nat → pg_V → pg_L
  | [], _, _ => []
  | (j, w) :: r, i, v => bif pg_stays j w i v then (j, w) :: pg_del r i v else pg_del r i v
def pg_set : pg_L → Nat → pg_V → pg_L
  | [], i, v => [(i, v)]
  | (j, w) :: r, i, v => bif Nat.beq j i then (i, v) :: pg_del r i v else bif pg_stays j w i v then (j, w) :: pg_set r i v else pg_set r i v
def pg_fv (c : Nat) (z : Int) : pg_V := match c with
  | 0 => .inl z
  | 1 => .inl z
  | 2 => .inr (.inl z)
  | r + 3 => .inr (.inr r)
def pg_xor (x y : Int) : Int := (pg_I x ^^^ pg_I y).toInt
def pg_and (x y : Int) : Int := (pg_I x &&& pg_I y).toInt
def pg_or (x y : Int) : Int := (pg_I x ||| pg_I y).toInt
def pg_shl (x y : Int) : Int := (pg_I x <<< (pg_I y &&& 31)).toInt
def pg_shr (x y : Int) : Int := (pg_I x >>> (pg_I y &&& 31)).toInt
def pg_cmp (x y : Int) : Int := if y < x then 1 else if x = y then 0 else -1
/-- the two arrays of the class that nobody writes, at places 1000 and 1001 -/
def pg_sq (j : Nat) : Int := ([1, 0, 1, 1, 0, 1, -1, 1] : List Int).getD j 0
def pg_tq (j : Nat) : Int := ([1, 1, 0, 1, -1, 2, -1, 1, -2, 1, 1, 0] : List Int).getD j 0
def pg_len : Instr → Nat
  | .iload _ => 2
  | .lload _ => 2
  | .aload _ => 2
  | .istore _ => 2
  | .lstore _ => 2
  | .astore _ => 2
  | .bipush _ => 2
  | .newarray _ => 2
  | .sipush _ => 3
  | .ldc2_w _ => 3
  | .getfield _ => 3
  | .putfield _ => 3
  | .getstatic _ => 3
  | .invokevirtual _ => 3
  | .invokestatic _ => 3
  | .invokespecial _ => 3
  | .new _ => 3
  | .if_icmp _ _ => 3
  | .ifCond _ _ => 3
  | .goto _ => 3
  | .iinc _ _ => 3
  | _ => 1
def pg_isSw : Instr → Bool
  | .tableswitch _ _ _ _ => true
  | _ => false
abbrev pg_Ef : Type := Option (List Prop × pg_St)
def pg_ldI (i n : Nat) : pg_St → pg_Ef := fun st => match pg_get st.2.1 i with
  | some (.inl x) => some ([], st.1 + n, st.2.1, .inl x :: st.2.2.1, st.2.2.2)
  | _ => none
def pg_ldL (i n : Nat) : pg_St → pg_Ef := fun st => match pg_get st.2.1 i with
  | some (.inr (.inl x)) => some ([], st.1 + n, st.2.1, .inr (.inl x) :: st.2.2.1, st.2.2.2)
  | _ => none
def pg_ldA (i n : Nat) : pg_St → pg_Ef := fun st => match pg_get st.2.1 i with
  | some (.inr (.inr x)) => some ([], st.1 + n, st.2.1, .inr (.inr x) :: st.2.2.1, st.2.2.2)
  | _ => none
def pg_stI (mL i n : Nat) : pg_St → pg_Ef := fun st => match st.2.2.1 with
  | .inl x :: r => bif Nat.blt i mL then some ([], st.1 + n, pg_set st.2.1 i (.inl x), r, st.2.2.2) else none
  | _ => none
def pg_stL (mL i n : Nat) : pg_St → pg_Ef := fun st => match st.2.2.1 with
  | .inr (.inl x) :: r => bif Nat.blt (i + 1) mL then some ([], st.1 + n, pg_set st.2.1 i (.inr (.inl x)), r, st.2.2.2) else none
  | _ => none
def pg_stA (mL i n : Nat) : pg_St → pg_Ef := fun st => match st.2.2.1 with
  | .inr (.inr x) :: r => bif Nat.blt i mL then some ([], st.1 + n, pg_set st.2.1 i (.inr (.inr x)), r, st.2.2.2) else none
  | _ => none
def pg_psh (v : pg_V) (n : Nat) : pg_St → pg_Ef := fun st => some ([], st.1 + n, st.2.1, v :: st.2.2.1, st.2.2.2)
def pg_i1 (f : Int → Int) : pg_St → pg_Ef := fun st => match st.2.2.1 with
  | .inl x :: r => some ([], st.1 + 1, st.2.1, .inl (f x) :: r, st.2.2.2)
  | _ => none
def pg_i2 (f : Int → Int → Int) : pg_St → pg_Ef := fun st => match st.2.2.1 with
  | .inl y :: .inl x :: r => some ([], st.1 + 1, st.2.1, .inl (f x y) :: r, st.2.2.2)
  | _ => none
def pg_i2c (f : Int → Int → Int) : pg_St → pg_Ef := fun st => match st.2.2.1 with
  | .inl y :: .inl x :: r => some ([y ≠ 0 ∧ pg_inR x ∧ pg_inR y], st.1 + 1, st.2.1, .inl (f x y) :: r, st.2.2.2)
  | _ => none
def pg_l1 (f : Int → Int) : pg_St → pg_Ef := fun st => match st.2.2.1 with
  | .inr (.inl x) :: r => some ([], st.1 + 1, st.2.1, .inr (.inl (f x)) :: r, st.2.2.2)
  | _ => none
def pg_l2 (f : Int → Int → Int) : pg_St → pg_Ef := fun st => match st.2.2.1 with
  | .inr (.inl y) :: .inr (.inl x) :: r => some ([], st.1 + 1, st.2.1, .inr (.inl (f x y)) :: r, st.2.2.2)
  | _ => none
def pg_lrm : pg_St → pg_Ef := fun st => match st.2.2.1 with
  | .inr (.inl y) :: .inr (.inl x) :: r => some ([y ≠ 0 ∧ pg_inL x ∧ pg_inL y], st.1 + 1, st.2.1, .inr (.inl (Int.tmod x y)) :: r, st.2.2.2)
  | _ => none
def pg_lcm : pg_St → pg_Ef := fun st => match st.2.2.1 with
  | .inr (.inl y) :: .inr (.inl x) :: r => some ([pg_inL x ∧ pg_inL y], st.1 + 1, st.2.1, .inl (pg_cmp x y) :: r, st.2.2.2)
  | _ => none
def pg_i2lo : pg_St → pg_Ef := fun st => match st.2.2.1 with
  | .inl x :: r => some ([pg_inR x], st.1 + 1, st.2.1, .inr (.inl x) :: r, st.2.2.2)
  | _ => none
def pg_l2io : pg_St → pg_Ef := fun st => match st.2.2.1 with
  | .inr (.inl x) :: r => some ([], st.1 + 1, st.2.1, .inl x :: r, st.2.2.2)
  | _ => none
def pg_dup : pg_St → pg_Ef := fun st => match st.2.2.1 with
  | v :: r => bif pg_isL v then none else some ([], st.1 + 1, st.2.1, v :: v :: r, st.2.2.2)
  | _ => none
def pg_dup2 : pg_St → pg_Ef := fun st => match st.2.2.1 with
  | v :: w :: r => bif pg_isL v || pg_isL w then none else some ([], st.1 + 1, st.2.1, v :: w :: v :: w :: r, st.2.2.2)
  | _ => none
def pg_pop : pg_St → pg_Ef := fun st => match st.2.2.1 with
  | v :: r => bif pg_isL v then none else some ([], st.1 + 1, st.2.1, r, st.2.2.2)
  | _ => none
def pg_inc (mL i : Nat) (n : Int) : pg_St → pg_Ef := fun st => match pg_get st.2.1 i with
  | some (.inl x) => bif Nat.blt i mL then some ([], st.1 + 3, pg_set st.2.1 i (.inl (x + n)), st.2.2.1, st.2.2.2) else none
  | _ => none
def pg_gto (off : Int) : pg_St → pg_Ef := fun st => match (st.1 : Int) + off with
  | .ofNat t => some ([], t, st.2.1, st.2.2.1, st.2.2.2)
  | .negSucc _ => none
def pg_swt (d lo hi : Int) (offs : Array Int) (x : Int) : Option Int := bif decide (x < lo) || decide (hi < x) then some d else pg_nth offs.toList (x - lo).toNat
def pg_sw (d lo hi : Int) (offs : Array Int) : pg_St → pg_Ef := fun st => match st.2.2.1 with
  | .inl x :: r => match pg_swt d lo hi offs x with
    | some off => match (st.1 : Int) + off with
      | .ofNat t => some ([pg_inR x], t, st.2.1, r, st.2.2.2)
      | .negSucc _ => none
    | none => none
  | _ => none
/-- arrays -/
def pg_ald (sh : List pg_Ce) (kd : Nat) : pg_St → pg_Ef := fun st => match st.2.2.1 with
  | .inl i :: .inr (.inr q) :: r => match pg_nth sh q with
    | some (k, n, _) => bif Nat.beq k kd && Nat.blt kd 3 then some ([0 ≤ i ∧ i < (n : Int)], st.1 + 1, st.2.1, pg_fv kd (st.2.2.2 q i.toNat) :: r, st.2.2.2) else none
    | none => bif Nat.beq kd 0 then (match q with
      | 1000 => some ([0 ≤ i ∧ i < 8], st.1 + 1, st.2.1, .inl (pg_sq i.toNat) :: r, st.2.2.2)
      | 1001 => some ([0 ≤ i ∧ i < 12], st.1 + 1, st.2.1, .inl (pg_tq i.toNat) :: r, st.2.2.2)
      | _ => none) else none
  | _ => none
def pg_ast (sh : List pg_Ce) (kd : Nat) : pg_St → pg_Ef := fun st => match st.2.2.1 with
  | .inl x :: .inl i :: .inr (.inr q) :: r => match pg_nth sh q with
    | some (k, n, _) => bif Nat.beq k kd then (match kd with
      | 0 => some ([0 ≤ i ∧ i < (n : Int)], st.1 + 1, st.2.1, r, pg_up st.2.2.2 q i.toNat x)
      | 1 => some ([0 ≤ i ∧ i < (n : Int), x = 0 ∨ x = 1], st.1 + 1, st.2.1, r, pg_up st.2.2.2 q i.toNat x)
      | _ => none) else none
    | none => none
  | .inr (.inl x) :: .inl i :: .inr (.inr q) :: r => match pg_nth sh q with
    | some (k, n, _) => bif Nat.beq k kd && Nat.beq kd 2 then some ([0 ≤ i ∧ i < (n : Int)], st.1 + 1, st.2.1, r, pg_up st.2.2.2 q i.toNat x) else none
    | none => none
  | _ => none
def pg_aln (sh : List pg_Ce) : pg_St → pg_Ef := fun st => match st.2.2.1 with
  | .inr (.inr q) :: r => match pg_nth sh q with
    | some (k, n, _) => bif Nat.blt k 3 then some ([], st.1 + 1, st.2.1, .inl (n : Int) :: r, st.2.2.2) else none
    | none => (match q with
      | 1000 => some ([], st.1 + 1, st.2.1, .inl 8 :: r, st.2.2.2)
      | 1001 => some ([], st.1 + 1, st.2.1, .inl 12 :: r, st.2.2.2)
      | _ => none)
  | _ => none
/-- fields: of a class' number and a place in its pool: class, slot, kind -/
def pg_look {α : Type} : List (Nat × α) → Nat → Option α
  | [], _ => none
  | (j, v) :: r, i => bif Nat.beq j i then some v else pg_look r i
def pg_gf (sh : List pg_Ce) (e : Option (Nat × Nat)) : pg_St → pg_Ef := fun st => match e with
  | some (ci, k) => match st.2.2.1 with
    | .inr (.inr q) :: r => match pg_nth sh q with
      | some (3, cj, fs) => bif Nat.beq cj ci then (match pg_nth fs k with
        | some c => some ([], st.1 + 3, st.2.1, pg_fv c (st.2.2.2 q k) :: r, st.2.2.2)
        | none => none) else none
      | _ => none
    | _ => none
  | none => none
def pg_pf (sh : List pg_Ce) (e : Option (Nat × Nat)) : pg_St → pg_Ef := fun st => match e with
  | some (ci, k) => match st.2.2.1 with
    | .inl x :: .inr (.inr q) :: r => match pg_nth sh q with
      | some (3, cj, fs) => bif Nat.beq cj ci then (match pg_nth fs k with
        | some 0 => some ([], st.1 + 3, st.2.1, r, pg_up st.2.2.2 q k x)
        | some 1 => some ([x = 0 ∨ x = 1], st.1 + 3, st.2.1, r, pg_up st.2.2.2 q k x)
        | _ => none) else none
      | _ => none
    | .inr (.inl x) :: .inr (.inr q) :: r => match pg_nth sh q with
      | some (3, cj, fs) => bif Nat.beq cj ci then (match pg_nth fs k with
        | some 2 => some ([], st.1 + 3, st.2.1, r, pg_up st.2.2.2 q k x)
        | _ => none) else none
      | _ => none
    | _ => none
  | none => none
def pg_lc (e : Option Int) : pg_St → pg_Ef := fun st => match e with
  | some z => some ([], st.1 + 3, st.2.1, .inr (.inl z) :: st.2.2.1, st.2.2.2)
  | none => none
def pg_gs (e : Option Nat) : pg_St → pg_Ef := fun st => match e with
  | some q => some ([], st.1 + 3, st.2.1, .inr (.inr q) :: st.2.2.1, st.2.2.2)
  | none => none
/-- an instruction that goes straight on (or jumps where it must); FT, LT, ST: the class' tables -/
def pg_eff (sh : List pg_Ce) (mL : Nat) (FT : List (Nat × Nat × Nat)) (LT : List (Nat × Int)) (ST : List (Nat × Nat)) (i : Instr) : pg_St → pg_Ef := match i with
  | .iload_n k => pg_ldI k.val 1
  | .iload k => pg_ldI k 2
  | .lload_n k => pg_ldL k.val 1
  | .lload k => pg_ldL k 2
  | .aload_n k => pg_ldA k.val 1
  | .aload k => pg_ldA k 2
  | .istore_n k => pg_stI mL k.val 1
  | .istore k => pg_stI mL k 2
  | .lstore_n k => pg_stL mL k.val 1
  | .lstore k => pg_stL mL k 2
  | .astore_n k => pg_stA mL k.val 1
  | .iconst n => pg_psh (.inl n) 1
  | .bipush n => bif decide (-128 ≤ n) && decide (n ≤ 127) then pg_psh (.inl n) 2 else fun _ => none
  | .sipush n => bif decide (-32768 ≤ n) && decide (n ≤ 32767) then pg_psh (.inl n) 3 else fun _ => none
  | .lconst n => pg_psh (.inr (.inl (n.val : Int))) 1
  | .ldc2_w ix => pg_lc (pg_look LT ix)
  | .iadd => pg_i2 (fun x y => x + y)
  | .isub => pg_i2 (fun x y => x - y)
  | .imul => pg_i2 (fun x y => x * y)
  | .ineg => pg_i1 (fun x => -x)
  | .idiv => pg_i2c (fun x y => Int.tdiv x y)
  | .irem => pg_i2c (fun x y => Int.tmod x y)
  | .ixor => pg_i2 pg_xor
  | .iand => pg_i2 pg_and
  | .ior => pg_i2 pg_or
  | .ishl => pg_i2 pg_shl
  | .ishr => pg_i2 pg_shr
  | .ladd => pg_l2 (fun x y => x + y)
  | .lmul => pg_l2 (fun x y => x * y)
  | .lneg => pg_l1 (fun x => -x)
  | .lrem => pg_lrm
  | .lcmp => pg_lcm
  | .i2l => pg_i2lo
  | .l2i => pg_l2io
  | .dup => pg_dup
  | .dup2 => pg_dup2
  | .pop => pg_pop
  | .iinc k n => pg_inc mL k n
  | .goto off => pg_gto off
  | .tableswitch d lo hi offs => pg_sw d lo hi offs
  | .iaload => pg_ald sh 0
  | .baload => pg_ald sh 1
  | .laload => pg_ald sh 2
  | .iastore => pg_ast sh 0
  | .bastore => pg_ast sh 1
  | .lastore => pg_ast sh 2
  | .arraylength => pg_aln sh
  | .getfield ix => pg_gf sh (pg_look FT ix)
  | .putfield ix => pg_pf sh (pg_look FT ix)
  | .getstatic ix => pg_gs (pg_look ST ix)
  | _ => fun _ => none
/-- a branch -/
def pg_cnd (c : Jvm.ClassFile.Cond) (x y : Int) : Prop := match c with
  | .eq => x = y
  | .ne => ¬ x = y
  | .lt => x < y
  | .ge => y ≤ x
  | .gt => y < x
  | .le => x ≤ y
def pg_bro (i : Instr) (st : pg_St) : Option (Prop × Prop × pg_St × pg_St) := match i with
  | .if_icmp c off => match st.2.2.1 with
    | .inl y :: .inl x :: r => match (st.1 : Int) + off with
      | .ofNat t => some (pg_inR x ∧ pg_inR y, pg_cnd c x y, (t, st.2.1, r, st.2.2.2), (st.1 + 3, st.2.1, r, st.2.2.2))
      | .negSucc _ => none
    | _ => none
  | .ifCond c off => match st.2.2.1 with
    | .inl x :: r => match (st.1 : Int) + off with
      | .ofNat t => some (pg_inR x, pg_cnd c x 0, (t, st.2.1, r, st.2.2.2), (st.1 + 3, st.2.1, r, st.2.2.2))
      | .negSucc _ => none
    | _ => none
  | _ => none
def pg_fetch : List (Nat × Instr × Nat) → Nat → Option (Instr × Nat)
  | [], _ => none
  | (j, v) :: r, i => bif Nat.beq j i then some v else pg_fetch r i

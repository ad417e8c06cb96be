/-! Words that the tables are read with. -/
abbrev LV := List (Nat × Value)
/-- how many cells there are; what is an int in them; what is a reference in them -/
abbrev Hp := Nat × (Nat → Nat → Int32) × (Nat → Nat → Option Nat)
def lkp {α : Type} : List (Nat × α) → Nat → Option α
  | [], _ => none
  | e :: r, i => bif Nat.beq e.1 i then some e.2 else lkp r i
def up2 {α : Type} (f : Nat → Nat → α) (i j : Nat) (v : α) : Nat → Nat → α := fun a => if a = i then (fun b => if b = j then v else f a b) else f a
def lvPut (lv : LV) (i : Nat) (v : Value) : LV := (i, v) :: lv.filter (fun q => !(q.1 == i) && !(q.1 + 1 == i && q.2.category == 2))
def lvPut2 (lv : LV) (i : Nat) (v : Value) : LV := (i, v) :: lv.filter (fun q => !(q.1 == i) && (!(q.1 == i + 1) && !(q.1 + 1 == i && q.2.category == 2)))
def isR (ci k : Nat) : Bool := match fldR[ci]? with
  | some l => (match l[k]? with
    | some b => b
    | none => false)
  | none => false
def finF (ci k : Nat) : Bool := match finL[ci]? with
  | some l => (match l[k]? with
    | some b => b
    | none => false)
  | none => false
def nF (ci : Nat) : Nat := match fldR[ci]? with
  | some l => l.length
  | none => 0
def lenOK (ins : Instr) (len : Nat) : Bool := match ins with
  | .bipush _ => Nat.beq len 2
  | .sipush _ => Nat.beq len 3
  | .ldc _ => Nat.beq len 2
  | .ldc_w _ => Nat.beq len 3
  | .ldc2_w _ => Nat.beq len 3
  | .iload _ => Nat.beq len 2
  | .lload _ => Nat.beq len 2
  | .aload _ => Nat.beq len 2
  | .istore _ => Nat.beq len 2
  | .lstore _ => Nat.beq len 2
  | .astore _ => Nat.beq len 2
  | .iinc _ _ => Nat.beq len 3
  | .goto _ => Nat.beq len 3
  | .if_icmp _ _ => Nat.beq len 3
  | .ifCond _ _ => Nat.beq len 3
  | .tableswitch _ _ _ _ => true
  | .lookupswitch _ _ => true
  | .getfield _ => Nat.beq len 3
  | .putfield _ => Nat.beq len 3
  | .new _ => Nat.beq len 3
  | .newarray _ => Nat.beq len 2
  | .anewarray _ => Nat.beq len 3
  | .invokevirtual _ => Nat.beq len 3
  | .invokespecial _ => Nat.beq len 3
  | .invokestatic _ => Nat.beq len 3
  | _ => Nat.beq len 1

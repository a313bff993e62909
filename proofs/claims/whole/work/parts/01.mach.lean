/-! THE PURE MACHINE: cells by number (0 the script, 1 the static row, 2 and 3 the two texts, 4 and on what is made), frames as lists -/
abbrev XH : Type := (Nat → Nat → Int32) × (Nat → Nat → Nat) × (Nat → Nat → Int64) × (Nat → Nat) × (Nat → Nat) × Nat × Nat
abbrev xI (h : XH) : Nat → Nat → Int32 := h.1
abbrev xR (h : XH) : Nat → Nat → Nat := h.2.1
abbrev xL (h : XH) : Nat → Nat → Int64 := h.2.2.1
abbrev xK (h : XH) : Nat → Nat := h.2.2.2.1
abbrev xN (h : XH) : Nat → Nat := h.2.2.2.2.1
abbrev xT (h : XH) : Nat := h.2.2.2.2.2.1
abbrev xS (h : XH) : Nat := h.2.2.2.2.2.2
def up {α : Type} (f : Nat → α) (k : Nat) (v : α) : Nat → α := fun x => if x = k then v else f x
def xsI (h : XH) (a j : Nat) (v : Int32) : XH := (up h.1 a (up (h.1 a) j v), h.2)
def xsR (h : XH) (a j : Nat) (r : Nat) : XH := (h.1, up h.2.1 a (up (h.2.1 a) j r), h.2.2)
def xsL (h : XH) (a j : Nat) (v : Int64) : XH := (h.1, h.2.1, up h.2.2.1 a (up (h.2.2.1 a) j v), h.2.2.2)
def xsA (h : XH) (a : Nat) (f : Nat → Int32) : XH := (up h.1 a f, h.2)
def xnew (h : XH) (k n : Nat) : XH := (up h.1 (xT h) (fun _ => 0), up h.2.1 (xT h) (fun _ => 0), up h.2.2.1 (xT h) (fun _ => 0), up h.2.2.2.1 (xT h) k, up h.2.2.2.2.1 (xT h) n, xT h + 1, xS h + n)
/-- code, a number, x, y, the next place, a switch's places -/
abbrev XO : Type := Nat × Int × Nat × Nat × Nat × List (Int × Nat)
def x_bin (k : Nat) (a b : Int32) : Int32 :=
  match k with
  | 0 => a + b
  | 1 => a - b
  | 2 => a * b
  | 3 => a &&& b
  | 4 => a ||| b
  | 5 => a ^^^ b
  | 6 => a <<< (b &&& 31)
  | 7 => a >>> (b &&& 31)
  | _ => (a.toUInt32 >>> (b.toUInt32 &&& Int32.toUInt32 31)).toInt32
def x_lbin (k : Nat) (a b : Int64) : Int64 :=
  match k with
  | 0 => a + b
  | 1 => a - b
  | 2 => a * b
  | 3 => a &&& b
  | _ => a ||| b
def x_cmp (k : Nat) (a b : Int32) : Bool :=
  match k with
  | 0 => decide (a = b)
  | 1 => decide (¬ a = b)
  | 2 => decide (a < b)
  | 3 => decide (b ≤ a)
  | 4 => decide (b < a)
  | _ => decide (a ≤ b)
def x_sw (sw : List (Int × Nat)) (d : Nat) (x : Int) : Nat :=
  match sw with
  | [] => d
  | q :: r => if q.1 = x then q.2 else x_sw r d x
def x_set1 (ls : List Value) (k : Nat) (v : Value) : List Value :=
  (match k with
   | 0 => ls
   | j + 1 => if (ls.getD j .null).category = 2 then ls.set j .null else ls).set k v
def x_set2 (ls : List Value) (k : Nat) (v : Value) : List Value := (x_set1 ls k v).set (k + 1) .null
abbrev XS : Type := Nat × List Value × List Value × XH
def x_step (code : Nat) (imm : Int) (x y nx : Nat) (sw : List (Int × Nat)) (nf : Nat → Nat) (ls st : List Value) (h : XH) : Option XS :=
  match code with
  | 0 => some (nx, ls, .int (Int32.ofInt imm) :: st, h)
  | 1 => match ls[x]? with
    | some (.int v) => some (nx, ls, .int v :: st, h)
    | _ => none
  | 2 => match ls[x]? with
    | some (.ref v) => some (nx, ls, .ref v :: st, h)
    | _ => none
  | 3 => match ls[x]? with
    | some (.long v) => some (nx, ls, .long v :: st, h)
    | _ => none
  | 4 => match st with
    | .int v :: st => if x < ls.length then some (nx, x_set1 ls x (.int v), st, h) else none
    | _ => none
  | 5 => match st with
    | .ref v :: st => if x < ls.length then some (nx, x_set1 ls x (.ref v), st, h) else none
    | _ => none
  | 6 => match st with
    | .long v :: st => if x + 1 < ls.length then some (nx, x_set2 ls x (.long v), st, h) else none
    | _ => none
  | 7 => match ls[x]? with
    | some (.int v) => some (nx, x_set1 ls x (.int (v + Int32.ofInt imm)), st, h)
    | _ => none
  | 8 => match st with
    | .int b :: .int a :: st => some (nx, ls, .int (x_bin x a b) :: st, h)
    | _ => none
  | 9 => match st with
    | .int b :: .int a :: st => if b = 0 then none else some (nx, ls, .int (a / b) :: st, h)
    | _ => none
  | 10 => match st with
    | .int b :: .int a :: st => if b = 0 then none else some (nx, ls, .int (a - a / b * b) :: st, h)
    | _ => none
  | 11 => match st with
    | .long b :: .long a :: st => some (nx, ls, .long (x_lbin x a b) :: st, h)
    | _ => none
  | 12 => match st with
    | .int b :: .long a :: st => some (nx, ls, .long (a <<< (b.toInt64 &&& 63)) :: st, h)
    | _ => none
  | 13 => match st with
    | .int b :: .long a :: st => some (nx, ls, .long (a.toUInt64 >>> (b.toInt64.toUInt64 &&& Int64.toUInt64 63)).toInt64 :: st, h)
    | _ => none
  | 14 => match st with
    | .int a :: st => some (nx, ls, .long a.toInt64 :: st, h)
    | _ => none
  | 15 => match st with
    | .long a :: st => some (nx, ls, .int a.toInt32 :: st, h)
    | _ => none
  | 16 => match st with
    | .int a :: st => some (nx, ls, .int a.toInt8.toInt32 :: st, h)
    | _ => none
  | 17 => match st with
    | .int a :: st => some (nx, ls, .int (a.toUInt32 % 65536).toInt32 :: st, h)
    | _ => none
  | 18 => match st with
    | .long b :: .long a :: st => some (nx, ls, .int (lg_cmp a b) :: st, h)
    | _ => none
  | 19 => some (nx, ls, .long (Int64.ofInt imm) :: st, h)
  | 20 => some (x, ls, st, h)
  | 21 => match st with
    | .int b :: .int a :: st => some (if x_cmp y a b then x else nx, ls, st, h)
    | _ => none
  | 22 => match st with
    | .int a :: st => some (if x_cmp y a 0 then x else nx, ls, st, h)
    | _ => none
  | 23 => match st with
    | v :: st => if v.category = 1 then some (nx, ls, v :: v :: st, h) else none
    | _ => none
  | 24 => match st with
    | v :: w :: st => if v.category = 1 ∧ w.category = 1 then some (nx, ls, v :: w :: v :: w :: st, h) else none
    | _ => none
  | 25 => match st with
    | v :: st => if v.category = 1 then some (nx, ls, st, h) else none
    | _ => none
  | 26 => match st with
    | .ref a :: st => if xK h a = 10 + x then some (nx, ls, .int (xI h a y) :: st, h) else none
    | _ => none
  | 27 => match st with
    | .ref a :: st => if xK h a = 10 + x ∧ xR h a y ≠ 0 then some (nx, ls, .ref (xR h a y) :: st, h) else none
    | _ => none
  | 28 => match st with
    | .int v :: .ref a :: st => if xK h a = 10 + x then some (nx, ls, st, xsI h a y v) else none
    | _ => none
  | 29 => match st with
    | .int v :: .ref a :: st => if xK h a = 10 + x ∧ (v = 0 ∨ v = 1) then some (nx, ls, st, xsI h a y v) else none
    | _ => none
  | 30 => match st with
    | .ref v :: .ref a :: st => if xK h a = 10 + x ∧ v ≠ 0 then some (nx, ls, st, xsR h a y v) else none
    | _ => none
  | 31 => match st with
    | .int i :: .ref a :: st => if xK h a = 1 ∧ ¬ (i < 0 ∨ xN h a ≤ i.toNatClampNeg) then some (nx, ls, .int (xI h a i.toNatClampNeg) :: st, h) else none
    | _ => none
  | 32 => match st with
    | .int v :: .int i :: .ref a :: st => if xK h a = 1 ∧ 4 ≤ a ∧ ¬ (i < 0 ∨ xN h a ≤ i.toNatClampNeg) then some (nx, ls, st, xsI h a i.toNatClampNeg v) else none
    | _ => none
  | 33 => match st with
    | .int i :: .ref a :: st => if xK h a = 4 ∧ ¬ (i < 0 ∨ xN h a ≤ i.toNatClampNeg) then some (nx, ls, .long (xL h a i.toNatClampNeg) :: st, h) else none
    | _ => none
  | 34 => match st with
    | .long v :: .int i :: .ref a :: st => if xK h a = 4 ∧ ¬ (i < 0 ∨ xN h a ≤ i.toNatClampNeg) then some (nx, ls, st, xsL h a i.toNatClampNeg v) else none
    | _ => none
  | 35 => match st with
    | .int i :: .ref a :: st => if (xK h a = 2 ∨ xK h a = 3) ∧ ¬ (i < 0 ∨ xN h a ≤ i.toNatClampNeg) then some (nx, ls, .int (xI h a i.toNatClampNeg) :: st, h) else none
    | _ => none
  | 36 => match st with
    | .int v :: .int i :: .ref a :: st =>
      if xK h a = 2 ∧ ¬ (i < 0 ∨ xN h a ≤ i.toNatClampNeg) then some (nx, ls, st, xsI h a i.toNatClampNeg v.toInt8.toInt32)
      else if xK h a = 3 ∧ (v = 0 ∨ v = 1) ∧ ¬ (i < 0 ∨ xN h a ≤ i.toNatClampNeg) then some (nx, ls, st, xsI h a i.toNatClampNeg v) else none
    | _ => none
  | 37 => match st with
    | .ref a :: st => if 1 ≤ xK h a ∧ xK h a ≤ 4 then some (nx, ls, .int (Int32.ofNat (xN h a)) :: st, h) else none
    | _ => none
  | 38 => match st with
    | .int n :: st => if n < 0 ∨ 60000000 < n.toNatClampNeg then none else some (nx, ls, .ref (xT h) :: st, xnew h x n.toNatClampNeg)
    | _ => none
  | 39 => some (nx, ls, .ref (xT h) :: st, xnew h (10 + x) (nf x))
  | 40 => some (nx, ls, .ref x :: st, h)
  | 41 => match st with
    | .int a :: st => some (x_sw sw x a.toInt, ls, st, h)
    | _ => none
  | 42 => match st with
    | .int n :: .int dp :: .ref d :: .int sp :: .ref s :: st =>
      if xK h s = 1 ∧ xK h d = 1 ∧ 4 ≤ s ∧ 4 ≤ d ∧ s ≠ d ∧ ¬ sp < 0 ∧ ¬ dp < 0 ∧ ¬ n < 0 ∧ sp.toNatClampNeg + n.toNatClampNeg ≤ xN h s ∧ dp.toNatClampNeg + n.toNatClampNeg ≤ xN h d ∧ (st.map fun v => v.category).sum ≤ 8
      then some (nx, ls, st, xsA h d (va_cpy (xI h s) (xI h d) sp.toNatClampNeg dp.toNatClampNeg n.toNatClampNeg)) else none
    | _ => none
  | 43 => match st with
    | .int b :: .int a :: st => if (st.map fun v => v.category).sum ≤ 8 then some (nx, ls, .int (if x = 0 then (if a < b then b else a) else (if b < a then b else a)) :: st, h) else none
    | _ => none
  | 44 => match st with
    | .long b :: .long a :: st => if (st.map fun v => v.category).sum ≤ 8 then some (nx, ls, .long (if x = 0 then (if b < a then a else b) else (if b < a then b else a)) :: st, h) else none
    | _ => none
  | 45 => match st with
    | .ref _ :: st => if (st.map fun v => v.category).sum ≤ 8 then some (nx, ls, st, h) else none
    | _ => none
  | _ => none

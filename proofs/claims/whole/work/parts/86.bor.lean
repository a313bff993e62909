/-! BITS PUT TOGETHER -/
def bt (p : Nat) : Int32 := 1 <<< (nI p &&& 31)
def bor (f : Nat → Int32) : Nat → Int32
  | 0 => 0
  | n + 1 => bor f n ||| f n
theorem bor_c {f g : Nat → Int32} : ∀ n, (∀ i, i < n → f i = g i) → bor f n = bor g n := by
  intro n
  induction n with
  | zero => intro _; rfl
  | succ n ih => intro h; unfold bor; rw [ih (fun i hi => h i (by omega)), h n (by omega)]
theorem z_or (a : Int32) : 0 ||| a = a := by rw [Int32.or_comm, Int32.or_zero]
theorem bor_f {f : Nat → Int32} : ∀ n, bor f (n + 1) = f 0 ||| bor (fun i => f (i + 1)) n := by
  intro n
  induction n with
  | zero => show (0 : Int32) ||| f 0 = f 0 ||| 0; rw [Int32.or_comm]
  | succ n ih =>
    show bor f (n + 1) ||| f (n + 1) = f 0 ||| (bor (fun i => f (i + 1)) n ||| f (n + 1))
    rw [ih, Int32.or_assoc]
theorem bor_or {f g : Nat → Int32} : ∀ n, bor (fun i => f i ||| g i) n = bor f n ||| bor g n := by
  intro n
  induction n with
  | zero => show (0 : Int32) = 0 ||| 0; decide
  | succ n ih =>
    show bor (fun i => f i ||| g i) n ||| (f n ||| g n) = (bor f n ||| f n) ||| (bor g n ||| g n)
    rw [ih, Int32.or_assoc, Int32.or_assoc, ← Int32.or_assoc (bor g n) (f n), Int32.or_comm (bor g n) (f n), Int32.or_assoc]
theorem bor_0 : ∀ n, bor (fun _ => 0) n = 0 := by
  intro n
  induction n with
  | zero => rfl
  | succ n ih => unfold bor; rw [ih]; rfl
theorem bor_sw {f : Nat → Nat → Int32} {m : Nat} : ∀ n, bor (fun s => bor (fun q => f s q) m) n = bor (fun q => bor (fun s => f s q) n) m := by
  intro n
  induction n with
  | zero => exact (bor_0 m).symm
  | succ n ih =>
    show bor (fun s => bor (fun q => f s q) m) n ||| bor (fun q => f n q) m = bor (fun q => bor (fun s => f s q) n ||| f n q) m
    rw [ih, bor_or]
theorem unI_b {b : Nat → Int32} {fr s : Nat} : ∀ k p acc, unI b fr s k p acc = acc ||| bor (fun i => if shI (b s) (p + i) = shI (b fr) (p + i) then 0 else bt (p + i)) k := by
  intro k
  induction k with
  | zero => intro p acc; show acc = acc ||| 0; rw [Int32.or_zero]
  | succ k ih =>
    intro p acc
    show unI b fr s k (p + 1) (if shI (b s) p = shI (b fr) p then acc else acc ||| bt p) = _
    rw [ih, bor_f]
    have e : bor (fun i => if shI (b s) (p + (i + 1)) = shI (b fr) (p + (i + 1)) then 0 else bt (p + (i + 1))) k = bor (fun i => if shI (b s) (p + 1 + i) = shI (b fr) (p + 1 + i) then 0 else bt (p + 1 + i)) k := bor_c _ (fun i _ => by rw [show p + (i + 1) = p + 1 + i by omega])
    rw [e, ← Int32.or_assoc]
    congr 1
    show _ = acc ||| (if shI (b s) p = shI (b fr) p then 0 else bt p)
    split
    · rw [Int32.or_zero]
    · rfl
theorem unO_b {b : Nat → Int32} {P fr : Nat} : ∀ n s acc, unO b P fr n s acc = acc ||| bor (fun j => bor (fun i => if shI (b (s + j)) i = shI (b fr) i then 0 else bt i) P) n := by
  intro n
  induction n with
  | zero => intro s acc; show acc = acc ||| 0; rw [Int32.or_zero]
  | succ n ih =>
    intro s acc
    show unO b P fr n (s + 1) (unI b fr s P 0 acc) = _
    rw [ih, unI_b, bor_f, Int32.or_assoc]
    congr 2
    · refine bor_c _ (fun i _ => ?_)
      rw [Nat.zero_add]
      rfl
    · refine bor_c _ (fun j _ => ?_)
      rw [show s + (j + 1) = s + 1 + j by omega]
/-- the reference's order: page by page -/
def blI (b r : Nat → Int32) (p : Nat) : Nat → Nat → Int32 → Int32
  | 0, _, acc => acc
  | n + 1, s, acc => blI b r p n (s + 1) (if shI (b s) p = r (8 + p) then acc else acc ||| bt p)
def blO (b r : Nat → Int32) (n s : Nat) : Nat → Nat → Int32 → Int32
  | 0, _, acc => acc
  | k + 1, p, acc => blO b r n s k (p + 1) (blI b r p n s acc)
theorem blI_b {b r : Nat → Int32} {p : Nat} : ∀ n s acc, blI b r p n s acc = acc ||| bor (fun j => if shI (b (s + j)) p = r (8 + p) then 0 else bt p) n := by
  intro n
  induction n with
  | zero => intro s acc; show acc = acc ||| 0; rw [Int32.or_zero]
  | succ n ih =>
    intro s acc
    show blI b r p n (s + 1) (if shI (b s) p = r (8 + p) then acc else acc ||| bt p) = _
    rw [ih, bor_f]
    have e : bor (fun j => if shI (b (s + (j + 1))) p = r (8 + p) then 0 else bt p) n = bor (fun j => if shI (b (s + 1 + j)) p = r (8 + p) then 0 else bt p) n := bor_c _ (fun j _ => by rw [show s + (j + 1) = s + 1 + j by omega])
    rw [e, ← Int32.or_assoc]
    congr 1
    show _ = acc ||| (if shI (b s) p = r (8 + p) then 0 else bt p)
    split
    · rw [Int32.or_zero]
    · rfl
theorem blO_b {b r : Nat → Int32} {n s : Nat} : ∀ k p acc, blO b r n s k p acc = acc ||| bor (fun i => bor (fun j => if shI (b (s + j)) (p + i) = r (8 + (p + i)) then 0 else bt (p + i)) n) k := by
  intro k
  induction k with
  | zero => intro p acc; show acc = acc ||| 0; rw [Int32.or_zero]
  | succ k ih =>
    intro p acc
    show blO b r n s k (p + 1) (blI b r p n s acc) = _
    rw [ih, blI_b, bor_f, Int32.or_assoc]
    congr 2
    refine bor_c _ (fun i _ => ?_)
    rw [show p + (i + 1) = p + 1 + i by omega]
theorem bl_un {b r : Nat → Int32} {P j k : Nat} (hjk : j < k) (hr : ∀ p, p < P → r (8 + p) = shI (b j) p) : blO b r (k - j) j P 0 0 = unO b P j (k - (j + 1)) (j + 1) 0 := by
  rw [blO_b, unO_b, bor_sw, z_or, z_or, show k - j = (k - (j + 1)) + 1 by omega]
  rw [bor_f]
  have e0 : bor (fun s => if shI (b (j + 0)) (0 + s) = r (8 + (0 + s)) then 0 else bt (0 + s)) P = 0 := by
    rw [bor_c (g := fun _ => 0) P (fun i hi => by rw [Nat.zero_add, Nat.add_zero, hr i hi, if_pos rfl]), bor_0]
  rw [e0, z_or]
  refine bor_c _ (fun t _ => bor_c _ (fun i hi => ?_))
  rw [Nat.zero_add, hr i hi, show j + (t + 1) = j + 1 + t by omega]

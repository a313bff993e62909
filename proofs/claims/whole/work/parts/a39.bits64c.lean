/-! BITS OF A LONG: the bytes' sum -/
/-- n bytes, the lowest g 0 -/
def wB (g : Nat → Nat) : Nat → Nat
  | 0 => 0
  | n + 1 => 256 * wB (fun i => g (i + 1)) n + g 0
theorem wB_add : ∀ n (f g : Nat → Nat), wB f n + wB g n = wB (fun i => f i + g i) n := by
  intro n
  induction n with
  | zero => intro f g; rfl
  | succ n ih =>
    intro f g
    have i := ih (fun i => f (i + 1)) (fun i => g (i + 1))
    show 256 * wB (fun i => f (i + 1)) n + f 0 + (256 * wB (fun i => g (i + 1)) n + g 0) = 256 * wB (fun i => f (i + 1) + g (i + 1)) n + (f 0 + g 0)
    rw [← i]
    omega
theorem wB_0 : ∀ n (g : Nat → Nat), g n = 0 → wB g (n + 1) = wB g n := by
  intro n
  induction n with
  | zero => intro g h; show 256 * 0 + g 0 = 0; rw [h]
  | succ n ih =>
    intro g h
    show 256 * wB (fun i => g (i + 1)) (n + 1) + g 0 = 256 * wB (fun i => g (i + 1)) n + g 0
    rw [ih (fun i => g (i + 1)) h]
theorem wB_d : ∀ n (g : Nat → Nat), (∀ i, g i < 256) → g n = 0 → wB g n / 256 = wB (fun i => g (i + 1)) n := by
  intro n
  cases n with
  | zero => intro g _ _; show 0 / 256 = 0; rfl
  | succ n =>
    intro g h h0
    have hb := h 0
    rw [wB_0 n (fun i => g (i + 1)) h0]
    show (256 * wB (fun i => g (i + 1)) n + g 0) / 256 = _
    omega
theorem wB_c : ∀ n (f g : Nat → Nat), (∀ i, i < n → f i = g i) → wB f n = wB g n := by
  intro n
  induction n with
  | zero => intro f g _; rfl
  | succ n ih =>
    intro f g h
    show 256 * wB (fun i => f (i + 1)) n + f 0 = 256 * wB (fun i => g (i + 1)) n + g 0
    rw [ih _ _ (fun i hi => h (i + 1) (by omega)), h 0 (by omega)]
theorem wB_by {f : Nat → Nat} : ∀ n x, by8 f x n = wB (fun i => f (x / 256 ^ i % 256)) n := by
  intro n
  induction n with
  | zero => intro x; rfl
  | succ n ih =>
    intro x
    show 256 * by8 f (x / 256) n + f (x % 256) = 256 * wB (fun i => f (x / 256 ^ (i + 1) % 256)) n + f (x / 256 ^ 0 % 256)
    rw [ih, Nat.pow_zero, Nat.div_one]
    have e : (fun i => f (x / 256 / 256 ^ i % 256)) = (fun i => f (x / 256 ^ (i + 1) % 256)) := by
      funext i
      rw [Nat.div_div_eq_div_mul, Nat.pow_succ, Nat.mul_comm 256]
    rw [e]
theorem wB_d2 {n : Nat} {g : Nat → Nat} (h : ∀ i, g i < 256) (h0 : ∀ i, n ≤ i → g i = 0) : wB g n / 65536 = wB (fun i => g (i + 2)) n := by
  rw [show (65536 : Nat) = 256 * 256 from rfl, ← Nat.div_div_eq_div_mul, wB_d n g h (h0 n (by omega)), wB_d n _ (fun i => h (i + 1)) (h0 (n + 1) (by omega))]
theorem wB_d4 {n : Nat} {g : Nat → Nat} (h : ∀ i, g i < 256) (h0 : ∀ i, n ≤ i → g i = 0) : wB g n / 4294967296 = wB (fun i => g (i + 4)) n := by
  rw [show (4294967296 : Nat) = 65536 * 65536 from rfl, ← Nat.div_div_eq_div_mul, wB_d2 h h0, wB_d2 (g := fun i => g (i + 2)) (fun i => h (i + 2)) (fun i hi => h0 (i + 2) (by omega))]
def sm8 (a : Nat → Nat) (i : Nat) : Nat := a i + a (i + 1) + (a (i + 2) + a (i + 2 + 1)) + (a (i + 4) + a (i + 4 + 1) + (a (i + 4 + 2) + a (i + 4 + 2 + 1)))
theorem sum8 {a : Nat → Nat} {y : Nat} (ha : ∀ i, a i ≤ 8) (h0 : ∀ i, 8 ≤ i → a i = 0) (hy : y = wB a 8) : ((y + y / 256 + (y + y / 256) / 65536) + (y + y / 256 + (y + y / 256) / 65536) / 4294967296) % 128 = sm8 a 0 ∧ y + y / 256 + (y + y / 256) / 65536 + (y + y / 256 + (y + y / 256) / 65536) / 4294967296 < 18446744073709551616 := by
  have d1 : y + y / 256 = wB (fun i => a i + a (i + 1)) 8 := by
    rw [hy, wB_d 8 a (fun i => by have := ha i; omega) (h0 8 (by omega)), wB_add]
  have d2 : y + y / 256 + (y + y / 256) / 65536 = wB (fun i => a i + a (i + 1) + (a (i + 2) + a (i + 2 + 1))) 8 := by
    rw [d1, wB_d2 (fun i => by have := ha i; have := ha (i + 1); omega) (fun i hi => by rw [h0 i (by omega), h0 (i + 1) (by omega)]), wB_add]
  have d3 : y + y / 256 + (y + y / 256) / 65536 + (y + y / 256 + (y + y / 256) / 65536) / 4294967296 = wB (sm8 a) 8 := by
    rw [d2, wB_d4 (fun i => by have := ha i; have := ha (i + 1); have := ha (i + 2); have := ha (i + 2 + 1); omega) (fun i hi => by rw [h0 i (by omega), h0 (i + 1) (by omega), h0 (i + 2) (by omega), h0 (i + 2 + 1) (by omega)]), wB_add]
    rfl
  rw [d3]
  have hb : ∀ i, sm8 a i ≤ 64 := by
    intro i
    unfold sm8
    have := ha i; have := ha (i + 1); have := ha (i + 2); have := ha (i + 2 + 1)
    have := ha (i + 4); have := ha (i + 4 + 1); have := ha (i + 4 + 2); have := ha (i + 4 + 2 + 1)
    omega
  have hl : ∀ n (g : Nat → Nat), (∀ i, g i ≤ 64) → wB g n < 256 ^ n := by
    intro n
    induction n with
    | zero => intro g _; exact Nat.one_pos
    | succ n ih =>
      intro g hg
      have i := ih (fun i => g (i + 1)) (fun i => hg (i + 1))
      have j := hg 0
      show 256 * wB (fun i => g (i + 1)) n + g 0 < 256 ^ (n + 1)
      rw [Nat.pow_succ]
      omega
  refine ⟨?_, hl 8 _ hb⟩
  show (256 * wB (fun i => sm8 a (i + 1)) 7 + sm8 a 0) % 128 = sm8 a 0
  have := hb 0
  omega
theorem cnt_app {f : Nat → Bool} : ∀ k m, cnt f (m + k) = cnt f m + cnt (fun i => f (m + i)) k := by
  intro k
  induction k with
  | zero => intro m; rfl
  | succ k ih =>
    intro m
    show (if f (m + k) then cnt f (m + k) + 1 else cnt f (m + k)) = cnt f m + (if f (m + k) then cnt (fun i => f (m + i)) k + 1 else cnt (fun i => f (m + i)) k)
    rw [ih]
    split <;> omega
theorem cnt_e {f g : Nat → Bool} : ∀ n, (∀ i, i < n → f i = g i) → cnt f n = cnt g n := by
  intro n
  induction n with
  | zero => intro _; rfl
  | succ n ih =>
    intro h
    show (if f n then cnt f n + 1 else cnt f n) = (if g n then cnt g n + 1 else cnt g n)
    rw [ih (fun i hi => h i (by omega)), h n (by omega)]
theorem bX_hi {X i : Nat} : bX X (8 + i) = bX (X / 256) i := by
  unfold bX
  rw [Nat.pow_add, Nat.div_div_eq_div_mul]
theorem bX_lo {X i : Nat} (hi : i < 8) : bX X i = bX (X % 256) i := by
  unfold bX
  have e : X / 2 ^ i % 2 = X % 256 / 2 ^ i % 2 := by
    have : (256 : Nat) = 2 ^ i * 2 ^ (8 - i) := by
      rw [← Nat.pow_add, show i + (8 - i) = 8 by omega]
    rw [this, Nat.mod_mul_right_div_self, Nat.mod_mod_of_dvd]
    exact ⟨2 ^ (7 - i), by rw [← Nat.pow_succ', show (7 - i).succ = 8 - i by omega]⟩
  rw [e]
theorem cnt_by {X n : Nat} : cnt (bX X) (8 * (n + 1)) = cnt (bX (X % 256)) 8 + cnt (bX (X / 256)) (8 * n) := by
  rw [show 8 * (n + 1) = 8 + 8 * n by omega, cnt_app]
  rw [cnt_e (f := bX X) (g := bX (X % 256)) 8 (fun i hi => bX_lo hi), cnt_e (f := fun i => bX X (8 + i)) (g := bX (X / 256)) (8 * n) (fun i _ => bX_hi)]
/-- the bytes' counts -/
def a8 (X i : Nat) : Nat := if i < 8 then p8 (X / 256 ^ i % 256) else 0
theorem a8_le {X i : Nat} : a8 X i ≤ 8 := by
  unfold a8
  split
  · exact (p8_le _ (Nat.mod_lt _ (by decide))).1
  · omega
theorem cnt_64 {X : Nat} : sm8 (a8 X) 0 = cnt (bX X) 64 := by
  have e : ∀ i, i < 8 → a8 X i = cnt (bX (X / 256 ^ i % 256)) 8 := by
    intro i hi
    unfold a8
    rw [if_pos hi]
    exact (p8_le _ (Nat.mod_lt _ (by decide))).2
  have d : ∀ i, X / 256 ^ i / 256 = X / 256 ^ (i + 1) := fun i => by rw [Nat.div_div_eq_div_mul, Nat.pow_succ]
  have c : ∀ i n, cnt (bX (X / 256 ^ i)) (8 * (n + 1)) = cnt (bX (X / 256 ^ i % 256)) 8 + cnt (bX (X / 256 ^ (i + 1))) (8 * n) := fun i n => by rw [cnt_by, d]
  have c0 := c 0 7
  rw [Nat.pow_zero, Nat.div_one] at c0
  have c1 := c 1 6; have c2 := c 2 5; have c3 := c 3 4; have c4 := c 4 3; have c5 := c 5 2; have c6 := c 6 1; have c7 := c 7 0
  have e0 := e 0 (by omega)
  rw [Nat.pow_zero, Nat.div_one] at e0
  have e1 := e 1 (by omega); have e2 := e 2 (by omega); have e3 := e 3 (by omega); have e4 := e 4 (by omega); have e5 := e 5 (by omega); have e6 := e 6 (by omega); have e7 := e 7 (by omega)
  have z : cnt (bX (X / 256 ^ (7 + 1))) (8 * 0) = 0 := rfl
  show a8 X 0 + a8 X 1 + (a8 X 2 + a8 X 3) + (a8 X 4 + a8 X 5 + (a8 X 6 + a8 X 7)) = cnt (bX X) (8 * (7 + 1))
  rw [c0, show 8 * 7 = 8 * (6 + 1) from rfl, c1, show 8 * 6 = 8 * (5 + 1) from rfl, c2, show 8 * 5 = 8 * (4 + 1) from rfl, c3, show 8 * 4 = 8 * (3 + 1) from rfl, c4, show 8 * 3 = 8 * (2 + 1) from rfl, c5, show 8 * 2 = 8 * (1 + 1) from rfl, c6, show 8 * 1 = 8 * (0 + 1) from rfl, c7, z, e0, e1, e2, e3, e4, e5, e6, e7]
  omega
/-- the unsigned number of a long -/
def uL (x : Int64) : Nat := x.toBitVec.toNat
theorem uL_lt {x : Int64} : uL x < 18446744073709551616 := x.toBitVec.isLt
theorem uL_and {a b : Int64} : uL (a &&& b) = uL a &&& uL b := by
  show (a &&& b).toBitVec.toNat = _
  rw [Int64.toBitVec_and, BitVec.toNat_and]
  rfl
theorem uL_add {a b : Int64} : uL (a + b) = (uL a + uL b) % 18446744073709551616 := by
  show (a + b).toBitVec.toNat = _
  rw [Int64.toBitVec_add, BitVec.toNat_add]
  rfl
theorem uL_sub {a b : Int64} (h : uL b ≤ uL a) : uL (a - b) = uL a - uL b := by
  show (a - b).toBitVec.toNat = _
  rw [Int64.toBitVec_sub, BitVec.toNat_sub]
  have h1 : b.toBitVec.toNat ≤ a.toBitVec.toNat := h
  have h2 := a.toBitVec.isLt
  have h3 := b.toBitVec.isLt
  show (2 ^ 64 - b.toBitVec.toNat + a.toBitVec.toNat) % 2 ^ 64 = a.toBitVec.toNat - b.toBitVec.toNat
  omega
theorem uL_shr {a : Int64} {k : UInt64} : uL ((a.toUInt64 >>> k).toInt64) = uL a / 2 ^ (k.toNat % 64) := by
  show (a.toUInt64 >>> k).toBitVec.toNat = _
  rw [UInt64.toBitVec_shiftRight, BitVec.ushiftRight_eq', BitVec.toNat_ushiftRight, Nat.shiftRight_eq_div_pow, BitVec.toNat_umod]
  rfl
theorem uL_i7 {a : Int64} : (a.toInt32 &&& 127) = Int32.ofNat (uL a % 128) := by
  apply Int32.toBitVec_inj.mp
  rw [Int32.toBitVec_and, Int64.toBitVec_toInt32]
  apply BitVec.eq_of_toNat_eq
  rw [BitVec.toNat_and, BitVec.signExtend_eq_setWidth_of_le _ (by decide), BitVec.toNat_setWidth]
  show a.toBitVec.toNat % 2 ^ 32 &&& 127 = (BitVec.ofNat 32 (uL a % 128)).toNat
  rw [BitVec.toNat_ofNat, show (127 : Nat) = 2 ^ 7 - 1 from rfl, Nat.and_two_pow_sub_one_eq_mod]
  show a.toBitVec.toNat % 2 ^ 32 % 2 ^ 7 = a.toBitVec.toNat % 128 % 2 ^ 32
  omega
def w1 (x : Int64) : Int64 := x - (((x : Int64).toUInt64 >>> ((1 : Int32).toInt64.toUInt64 &&& Int64.toUInt64 63)).toInt64 &&& 6148914691236517205)
def w2 (y : Int64) : Int64 := (y &&& 3689348814741910323) + (((y : Int64).toUInt64 >>> ((2 : Int32).toInt64.toUInt64 &&& Int64.toUInt64 63)).toInt64 &&& 3689348814741910323)
def w3 (y : Int64) : Int64 := (y + ((y : Int64).toUInt64 >>> ((4 : Int32).toInt64.toUInt64 &&& Int64.toUInt64 63)).toInt64) &&& 1085102592571150095
def w4 (y : Int64) : Int64 := y + ((y : Int64).toUInt64 >>> ((8 : Int32).toInt64.toUInt64 &&& Int64.toUInt64 63)).toInt64
def w5 (y : Int64) : Int64 := y + ((y : Int64).toUInt64 >>> ((16 : Int32).toInt64.toUInt64 &&& Int64.toUInt64 63)).toInt64
def w6 (y : Int64) : Int64 := y + ((y : Int64).toUInt64 >>> ((32 : Int32).toInt64.toUInt64 &&& Int64.toUInt64 63)).toInt64
theorem by8_lt {f : Nat → Nat} (hf : ∀ a, a < 256 → f a < 256) : ∀ n x, by8 f x n < 256 ^ n := by
  intro n
  induction n with
  | zero => intro x; exact Nat.one_pos
  | succ n ih =>
    intro x
    have i := ih (x / 256)
    have j := hf (x % 256) (Nat.mod_lt _ (by decide))
    show 256 * by8 f (x / 256) n + f (x % 256) < 256 ^ (n + 1)
    rw [Nat.pow_succ]
    omega
theorem p8_w : ∀ a, a < 256 → s1 a < 256 ∧ s2 (s1 a) < 69 ∧ s2 (s1 a) % 16 ≤ 4 ∧ s2 (s1 a) / 16 ≤ 4 := by decide +kernel
theorem l95 (x : Int64) : ((w6 (w5 (w4 (w3 (w2 (w1 x)))))).toInt32 &&& 127) = Int32.ofNat (cnt (bX (uL x)) 64) := by
  have hx : uL x < 256 ^ 8 := uL_lt
  have e1 : uL (w1 x) = by8 s1 (uL x) 8 := by
    have g := sg1 hx
    have q : uL (((x : Int64).toUInt64 >>> ((1 : Int32).toInt64.toUInt64 &&& Int64.toUInt64 63)).toInt64 &&& 6148914691236517205) = uL x / 2 &&& rep8 85 8 := by
      rw [uL_and, uL_shr]
      rfl
    unfold w1
    rw [uL_sub (by rw [q]; exact g.1), q]
    exact g.2
  have e2 : uL (w2 (w1 x)) = by8 (fun a => s2 (s1 a)) (uL x) 8 := by
    have g := sg2 (n := 8) (x := uL (w1 x))
    rw [e1, by8_c (fun a ha => (p8_w a ha).1)] at g
    have lt := by8_lt (f := fun a => s2 (s1 a)) (fun a ha => by have := (p8_w a ha).2.1; show s2 (s1 a) < 256; omega) 8 (uL x)
    unfold w2
    rw [uL_add, uL_and, uL_and, uL_shr, e1]
    show ((by8 s1 (uL x) 8 &&& rep8 51 8) + (by8 s1 (uL x) 8 / 4 &&& rep8 51 8)) % 18446744073709551616 = _
    rw [g]
    exact Nat.mod_eq_of_lt lt
  have e3 : uL (w3 (w2 (w1 x))) = by8 p8 (uL x) 8 := by
    have g := sg3 (g := fun a => s2 (s1 a)) (fun a ha => (p8_w a ha).2.2) 8 (uL x)
    have lt : by8 (fun a => s2 (s1 a)) (uL x) 8 + by8 (fun a => s2 (s1 a)) (uL x) 8 / 16 < 18446744073709551616 := by
      have le : ∀ n x, 2 * by8 (fun a => s2 (s1 a)) x n < 256 ^ n := by
        intro n
        induction n with
        | zero => intro x; show 2 * 0 < 256 ^ 0; decide
        | succ n ih =>
          intro x
          have i := ih (x / 256)
          have j : s2 (s1 (x % 256)) < 69 := (p8_w (x % 256) (Nat.mod_lt _ (by decide))).2.1
          show 2 * (256 * by8 _ (x / 256) n + s2 (s1 (x % 256))) < 256 ^ (n + 1)
          rw [Nat.pow_succ]
          omega
      have l := le 8 (uL x)
      have l' : 2 * by8 (fun a => s2 (s1 a)) (uL x) 8 < 18446744073709551616 := l
      omega
    unfold w3
    rw [uL_and, uL_add, uL_shr, e2]
    show ((by8 (fun a => s2 (s1 a)) (uL x) 8 + by8 (fun a => s2 (s1 a)) (uL x) 8 / 16) % 18446744073709551616) &&& rep8 15 8 = _
    rw [Nat.mod_eq_of_lt lt, g]
    rfl
  have hb : by8 p8 (uL x) 8 = wB (a8 (uL x)) 8 := by
    rw [wB_by]
    exact wB_c 8 _ _ (fun i hi => by unfold a8; rw [if_pos hi])
  have s := sum8 (a := a8 (uL x)) (fun i => a8_le) (fun i hi => by unfold a8; rw [if_neg (by omega)]) hb
  rw [cnt_64, ← e3] at s
  obtain ⟨s1, s2⟩ := s
  rw [uL_i7]
  have e4 : uL (w4 (w3 (w2 (w1 x)))) = uL (w3 (w2 (w1 x))) + uL (w3 (w2 (w1 x))) / 256 := by
    unfold w4
    rw [uL_add, uL_shr]
    exact Nat.mod_eq_of_lt (by show uL (w3 (w2 (w1 x))) + uL (w3 (w2 (w1 x))) / 256 < _; omega)
  have e5 : uL (w5 (w4 (w3 (w2 (w1 x))))) = uL (w4 (w3 (w2 (w1 x)))) + uL (w4 (w3 (w2 (w1 x)))) / 65536 := by
    unfold w5
    rw [uL_add, uL_shr]
    exact Nat.mod_eq_of_lt (by show uL (w4 (w3 (w2 (w1 x)))) + uL (w4 (w3 (w2 (w1 x)))) / 65536 < _; rw [e4]; omega)
  have e6 : uL (w6 (w5 (w4 (w3 (w2 (w1 x)))))) = uL (w5 (w4 (w3 (w2 (w1 x))))) + uL (w5 (w4 (w3 (w2 (w1 x))))) / 4294967296 := by
    unfold w6
    rw [uL_add, uL_shr]
    exact Nat.mod_eq_of_lt (by show uL (w5 (w4 (w3 (w2 (w1 x))))) + uL (w5 (w4 (w3 (w2 (w1 x))))) / 4294967296 < _; rw [e5, e4]; exact s2)
  rw [e6, e5, e4, s1]
theorem c_bits64 {h : XH} {x : Int64} {K : Int32 → XH → Prop} (hs : Sh h) (k : K (nI (cnt (bX (uL x)) 64)) h) : ClI 95 [.long x] h K := by
  refine B_95_0 hs ⟨_, rfl, ?_⟩
  show K ((w6 (w5 (w4 (w3 (w2 (w1 x)))))).toInt32 &&& 127) h
  rw [l95]
  exact k

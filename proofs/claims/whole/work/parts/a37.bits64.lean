/-! BITS OF A LONG: byte by byte -/
theorem and8 {x y a b : Nat} (ha : a < 256) (hb : b < 256) : (256 * x + a) &&& (256 * y + b) = 256 * (x &&& y) + (a &&& b) := by
  have hab : a &&& b < 2 ^ 8 := Nat.and_lt_two_pow a (show b < 2 ^ 8 from hb)
  apply Nat.eq_of_testBit_eq
  intro i
  rw [Nat.testBit_and, show (256 : Nat) = 2 ^ 8 from rfl, Nat.testBit_two_pow_mul_add x (show a < 2 ^ 8 from ha), Nat.testBit_two_pow_mul_add y (show b < 2 ^ 8 from hb), Nat.testBit_two_pow_mul_add (x &&& y) hab]
  by_cases h : i < 8
  · rw [if_pos h, if_pos h, if_pos h, Nat.testBit_and]
  · rw [if_neg h, if_neg h, if_neg h, Nat.testBit_and]
/-- n bytes of f -/
def by8 (f : Nat → Nat) (x : Nat) : Nat → Nat
  | 0 => 0
  | n + 1 => 256 * by8 f (x / 256) n + f (x % 256)
/-- n times the byte b -/
def rep8 (b : Nat) : Nat → Nat
  | 0 => 0
  | n + 1 => 256 * rep8 b n + b
def s1 (a : Nat) : Nat := a - ((a / 2) &&& 85)
def s2 (a : Nat) : Nat := (a &&& 51) + ((a / 4) &&& 51)
def s3 (a : Nat) : Nat := (a + a / 16) &&& 15
theorem b_s1 : ∀ a, a < 256 → ∀ c, c < 2 → ((128 * c + a / 2) &&& 85) = (a / 2 &&& 85) ∧ (a / 2 &&& 85) ≤ a := by decide +kernel
theorem b_s2 : ∀ a, a < 256 → ∀ c, c < 4 → ((64 * c + a / 4) &&& 51) = (a / 4 &&& 51) ∧ s2 a < 256 := by decide +kernel
theorem and8h {x m d k b a' : Nat} (hd : d * k = 256) (hb : b < 256) (h : ∀ c, c < d → ((k * c + x % 256 / d) &&& b) = a') : (x / d) &&& (256 * m + b) = 256 * ((x / 256 / d) &&& m) + a' := by
  have hd0 : 0 < d := by
    cases d with
    | zero => simp at hd
    | succ d => omega
  have e : x / d = 256 * (x / 256 / d) + (k * (x / 256 % d) + x % 256 / d) := by
    have h1 := Nat.div_add_mod x 256
    have h2 := Nat.div_add_mod (x / 256) d
    have : x = d * (256 * (x / 256 / d) + k * (x / 256 % d)) + x % 256 := by
      rw [Nat.mul_add, ← Nat.mul_assoc d k, hd, Nat.mul_left_comm, ← Nat.mul_add, h2]
      exact h1.symm
    rw [← Nat.add_assoc]
    have e3 : x / d = (d * (256 * (x / 256 / d) + k * (x / 256 % d)) + x % 256) / d := by rw [← this]
    rw [e3, Nat.mul_add_div hd0]
  have hlt : k * (x / 256 % d) + x % 256 / d < 256 := by
    have h1 : x / 256 % d < d := Nat.mod_lt _ hd0
    have h2 : x % 256 / d < k := Nat.div_lt_of_lt_mul (by rw [hd]; exact Nat.mod_lt _ (by decide))
    have h3 : k * (x / 256 % d) + k ≤ k * d := by
      rw [← Nat.mul_succ]
      exact Nat.mul_le_mul_left _ h1
    rw [Nat.mul_comm k d, hd] at h3
    omega
  rw [e, and8 hlt hb, h _ (Nat.mod_lt _ hd0)]
theorem st1 : ∀ n x, (x / 2) &&& rep8 85 n = by8 (fun a => a / 2 &&& 85) x n := by
  intro n
  induction n with
  | zero => intro x; exact Nat.and_zero _
  | succ n ih =>
    intro x
    have h := fun c hc => (b_s1 (x % 256) (Nat.mod_lt _ (by decide)) c hc).1
    show (x / 2) &&& (256 * rep8 85 n + 85) = 256 * by8 _ (x / 256) n + _
    rw [and8h (d := 2) (k := 128) rfl (by decide) h, ih]
theorem st2 : ∀ n x, (x / 4) &&& rep8 51 n = by8 (fun a => a / 4 &&& 51) x n := by
  intro n
  induction n with
  | zero => intro x; exact Nat.and_zero _
  | succ n ih =>
    intro x
    have h := fun c hc => (b_s2 (x % 256) (Nat.mod_lt _ (by decide)) c hc).1
    show (x / 4) &&& (256 * rep8 51 n + 51) = 256 * by8 _ (x / 256) n + _
    rw [and8h (d := 4) (k := 64) rfl (by decide) h, ih]
theorem st0 {b : Nat} (hb : b < 256) : ∀ n x, x &&& rep8 b n = by8 (fun a => a &&& b) x n := by
  intro n
  induction n with
  | zero => intro x; exact Nat.and_zero _
  | succ n ih =>
    intro x
    show x &&& (256 * rep8 b n + b) = 256 * by8 _ (x / 256) n + _
    rw [← ih, ← and8 (Nat.mod_lt _ (by decide)) hb, Nat.div_add_mod]

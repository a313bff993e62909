/-! BITS OF A LONG: the stages over eight bytes -/
theorem by8_c {f g : Nat → Nat} (hg : ∀ a, a < 256 → g a < 256) : ∀ n x, by8 f (by8 g x n) n = by8 (fun a => f (g a)) x n := by
  intro n
  induction n with
  | zero => intro x; rfl
  | succ n ih =>
    intro x
    have h := hg (x % 256) (Nat.mod_lt _ (by decide))
    show 256 * by8 f ((256 * by8 g (x / 256) n + g (x % 256)) / 256) n + f ((256 * by8 g (x / 256) n + g (x % 256)) % 256) = 256 * by8 _ (x / 256) n + f (g (x % 256))
    rw [show (256 * by8 g (x / 256) n + g (x % 256)) / 256 = by8 g (x / 256) n by omega, show (256 * by8 g (x / 256) n + g (x % 256)) % 256 = g (x % 256) by omega, ih]
theorem by8_add {f g k : Nat → Nat} (h : ∀ a, a < 256 → k a = f a + g a) : ∀ n x, by8 f x n + by8 g x n = by8 k x n := by
  intro n
  induction n with
  | zero => intro x; rfl
  | succ n ih =>
    intro x
    have e := h (x % 256) (Nat.mod_lt _ (by decide))
    have i := ih (x / 256)
    show 256 * by8 f (x / 256) n + f (x % 256) + (256 * by8 g (x / 256) n + g (x % 256)) = 256 * by8 k (x / 256) n + k (x % 256)
    rw [e, ← i]
    omega
theorem by8_id : ∀ n x, x < 256 ^ n → by8 (fun a => a) x n = x := by
  intro n
  induction n with
  | zero => intro x hx; show 0 = x; simp at hx; omega
  | succ n ih =>
    intro x hx
    have h : x / 256 < 256 ^ n := Nat.div_lt_of_lt_mul (by rw [Nat.mul_comm, ← Nat.pow_succ]; exact hx)
    show 256 * by8 _ (x / 256) n + x % 256 = x
    rw [ih _ h]
    omega
theorem sg1 {n x : Nat} (hx : x < 256 ^ n) : (x / 2 &&& rep8 85 n) ≤ x ∧ x - (x / 2 &&& rep8 85 n) = by8 s1 x n := by
  have a := by8_add (f := s1) (g := fun a => a / 2 &&& 85) (k := fun a => a) (fun a ha => by have := (b_s1 a ha 0 (by decide)).2; unfold s1; omega) n x
  rw [by8_id n x hx] at a
  rw [st1]
  omega
theorem s1_lt : ∀ a, a < 256 → s1 a < 256 := by decide +kernel
theorem s2_n : ∀ a, a < 256 → s2 a % 16 ≤ 4 + s2 a % 16 ∧ s2 (s1 a) % 16 ≤ 4 ∧ s2 (s1 a) / 16 ≤ 4 := by decide +kernel
theorem sg2 {n x : Nat} : (x &&& rep8 51 n) + (x / 4 &&& rep8 51 n) = by8 s2 x n := by
  rw [st0 (by decide), st2]
  exact by8_add (fun a _ => rfl) n x
theorem b_s3 : ∀ g, g < 69 → g % 16 ≤ 4 → ∀ c, c < 5 → ((g + (16 * c + g / 16)) &&& 15) = s3 g := by decide +kernel
theorem sg3 {g : Nat → Nat} (h : ∀ a, a < 256 → g a % 16 ≤ 4 ∧ g a / 16 ≤ 4) : ∀ n x, (by8 g x n + by8 g x n / 16) &&& rep8 15 n = by8 (fun a => s3 (g a)) x n := by
  intro n
  induction n with
  | zero => intro x; exact Nat.and_zero _
  | succ n ih =>
    intro x
    have hg := h (x % 256) (Nat.mod_lt _ (by decide))
    have hZ : by8 g (x / 256) n % 16 ≤ 4 := by
      cases n with
      | zero => exact Nat.zero_le _
      | succ n =>
        have hg2 := h (x / 256 % 256) (Nat.mod_lt _ (by decide))
        show (256 * by8 g (x / 256 / 256) n + g (x / 256 % 256)) % 16 ≤ 4
        omega
    show ((256 * by8 g (x / 256) n + g (x % 256)) + (256 * by8 g (x / 256) n + g (x % 256)) / 16) &&& (256 * rep8 15 n + 15) = 256 * by8 _ (x / 256) n + s3 (g (x % 256))
    rw [show (256 * by8 g (x / 256) n + g (x % 256)) + (256 * by8 g (x / 256) n + g (x % 256)) / 16 = 256 * (by8 g (x / 256) n + by8 g (x / 256) n / 16) + (g (x % 256) + (16 * (by8 g (x / 256) n % 16) + g (x % 256) / 16)) by omega]
    rw [and8 (by omega) (by decide), ih, b_s3 _ (by omega) hg.1 _ (by omega)]
def p8 (a : Nat) : Nat := s3 (s2 (s1 a))
theorem p8_le : ∀ a, a < 256 → p8 a ≤ 8 ∧ p8 a = cnt (bX a) 8 := by decide +kernel

/-! SHADES AS DIGITS -/
def num (d : Nat → Nat) : Nat → Nat
  | 0 => 0
  | n + 1 => num d n + d n * 5 ^ n
theorem num_lt {d : Nat → Nat} : ∀ n, (∀ p, p < n → d p < 5) → num d n < 5 ^ n := by
  intro n
  induction n with
  | zero => intro _; exact Nat.one_pos
  | succ n ih =>
    intro h
    have h1 := ih (fun p hp => h p (by omega))
    have h2 : d n ≤ 4 := by have := h n (by omega); omega
    have h3 : d n * 5 ^ n ≤ 4 * 5 ^ n := Nat.mul_le_mul_right _ h2
    show num d n + d n * 5 ^ n < 5 ^ (n + 1)
    rw [Nat.pow_succ]
    omega
theorem num_dig {d : Nat → Nat} : ∀ n p, (∀ q, q < n → d q < 5) → p < n → num d n / 5 ^ p % 5 = d p := by
  intro n
  induction n with
  | zero => intro p _ hp; omega
  | succ n ih =>
    intro p h hp
    have h1 := num_lt n (fun q hq => h q (by omega))
    show (num d n + d n * 5 ^ n) / 5 ^ p % 5 = d p
    by_cases e : p = n
    · subst e
      rw [Nat.add_mul_div_right _ _ (Nat.pow_pos (by decide)), Nat.div_eq_of_lt h1, Nat.zero_add]
      exact Nat.mod_eq_of_lt (h p (by omega))
    · have hpn : p < n := by omega
      have e1 : d n * 5 ^ n = (d n * 5 ^ (n - p - 1) * 5) * 5 ^ p := by
        rw [Nat.mul_assoc, Nat.mul_assoc, Nat.mul_comm 5, ← Nat.pow_succ, ← Nat.pow_add, show n - p - 1 + (p + 1) = n by omega]
      rw [e1, Nat.add_mul_div_right _ _ (Nat.pow_pos (by decide)), Nat.add_mul_mod_self_right]
      exact ih p (fun q hq => h q (by omega)) hpn
theorem num_dig0 {d : Nat → Nat} {n p : Nat} (h : ∀ q, q < n → d q < 5) (hp : n ≤ p) : num d n / 5 ^ p % 5 = 0 := by
  have h1 := num_lt n h
  have h2 : 5 ^ n ≤ 5 ^ p := Nat.pow_le_pow_right (by decide) hp
  rw [Nat.div_eq_of_lt (by omega)]
theorem num_congr {d e : Nat → Nat} : ∀ n, (∀ p, p < n → d p = e p) → num d n = num e n := by
  intro n
  induction n with
  | zero => intro _; rfl
  | succ n ih =>
    intro h
    show num d n + d n * 5 ^ n = num e n + e n * 5 ^ n
    rw [ih (fun p hp => h p (by omega)), h n (by omega)]
theorem num_more {d : Nat → Nat} {n : Nat} : ∀ k, (∀ p, n ≤ p → p < n + k → d p = 0) → num d (n + k) = num d n := by
  intro k
  induction k with
  | zero => intro _; rfl
  | succ k ih =>
    intro h
    show num d (n + k) + d (n + k) * 5 ^ (n + k) = _
    rw [ih (fun p h1 h2 => h p h1 (by omega)), h (n + k) (by omega) (by omega), Nat.zero_mul, Nat.add_zero]
theorem shOf_n {r : Nat → Int32} {d : Nat → Nat} : ∀ n a, (∀ p, p < n → r (8 + p) = nI (d p)) → shOf r n (nI a) = nI (a * 5 ^ n + num d n) := by
  intro n
  induction n with
  | zero => intro a _; show nI a = nI (a * 1 + 0); rw [Nat.mul_one, Nat.add_zero]
  | succ n ih =>
    intro a h
    show shOf r n (nI a * 5 + r (8 + n)) = nI (a * 5 ^ (n + 1) + (num d n + d n * 5 ^ n))
    rw [h n (by omega), show (5 : Int32) = nI 5 from rfl, pk_mul, nI_add, ih _ (fun p hp => h p (by omega)), Nat.add_mul, Nat.pow_succ, Nat.mul_assoc a 5, Nat.mul_comm 5 (5 ^ n), Nat.add_assoc, Nat.add_comm (num d n)]
theorem stN_sh {T : Nat → Nat → Int32} {r : Nat → Int32} : ∀ n acc, stN T r n acc = shOf (fun i => shNx T r (i - 8)) n acc := by
  intro n
  induction n with
  | zero => intro _; rfl
  | succ n ih =>
    intro acc
    show stN T r n (acc * 5 + shNx T r n) = shOf _ n (acc * 5 + shNx T r (8 + n - 8))
    rw [ih, Nat.add_sub_cancel_left]
theorem ptS_at : ∀ (k p a : Nat) (r : Nat → Int32), a < 2 ^ 31 → ∀ i, ptS (nI a) k p r i = if 8 + p ≤ i ∧ i < 8 + p + k then nI (a / 5 ^ (i - 8 - p) % 5) else r i := by
  intro k
  induction k with
  | zero => intro p a r _ i; rw [if_neg (by omega)]; rfl
  | succ k ih =>
    intro p a r ha i
    have h5 : (5 : Int32) = nI 5 := rfl
    show ptS (nI a / 5) k (p + 1) (up r (8 + p) (nI a - nI a / 5 * 5)) i = _
    rw [h5, pk_rem ha (by decide) (by decide), pk_div ha (by decide) (by decide), ih (p + 1) (a / 5) _ (by omega) i]
    by_cases e : i = 8 + p
    · subst e
      rw [if_neg (by omega), if_pos (by omega), up_same, show 8 + p - 8 - p = 0 by omega, Nat.pow_zero, Nat.div_one]
    · by_cases h : 8 + (p + 1) ≤ i ∧ i < 8 + (p + 1) + k
      · rw [if_pos h, if_pos (by omega), Nat.div_div_eq_div_mul, ← Nat.pow_succ', show (i - 8 - (p + 1)).succ = i - 8 - p by omega]
      · rw [if_neg h, if_neg (by omega), up_ne e]
theorem five_n : ∀ p, p < 7 → x_five p = nI (5 ^ p) := by decide +kernel
theorem shI_n {a p : Nat} (ha : a < 2 ^ 31) (hp : p < 7) : shI (nI a) p = nI (a / 5 ^ p % 5) := by
  have h1 : 0 < 5 ^ p := Nat.pow_pos (by decide)
  have h2 : 5 ^ p ≤ 5 ^ 6 := Nat.pow_le_pow_right (by decide) (by omega)
  have h3 : a / 5 ^ p ≤ a := Nat.div_le_self _ _
  unfold shI
  rw [five_n p hp, pk_div ha h1 (by omega), show (5 : Int32) = nI 5 from rfl, pk_rem (by omega) (by decide) (by decide)]
/-- numbers of a text: facts nf, pages np, what facts can be, how many claims -/
def tNum (T : Nat → Nat → Int32) : Prop := (∀ p, p < tn (T 0 1) → ∃ m, 1 ≤ m ∧ m ≤ 6 ∧ T 6 p = nI m) ∧ (∀ p, p < tn (T 0 1) → ∃ m, m ≤ 2 ∧ T 5 p = nI m) ∧ ∀ f, f < tn (T 0 0) → ∃ m, 1 ≤ m ∧ m ≤ 3 ∧ T 1 f = nI m
theorem tc_n {T : Nat → Nat → Int32} {r : Nat → Int32} {p : Nat} : ∀ n, ∃ m, m ≤ n ∧ tc T r p n = nI m := by
  intro n
  induction n with
  | zero => exact ⟨0, Nat.le_refl _, rfl⟩
  | succ n ih =>
    obtain ⟨m, hm, e⟩ := ih
    show ∃ m, m ≤ n + 1 ∧ (if hl T r p n = true then tc T r p n + 1 else tc T r p n) = nI m
    rw [e]
    split
    · exact ⟨m + 1, by omega, nI_1 m⟩
    · exact ⟨m, by omega, rfl⟩
theorem shB_n {T : Nat → Nat → Int32} {p m : Nat} (ht : tNum T) (hp : p < tn (T 0 1)) (hm : m ≤ tn (T 6 p)) : ∃ s, s ≤ 4 ∧ shB T p (nI m) = nI s := by
  obtain ⟨c, h1, h2, e⟩ := ht.1 p hp
  rw [e, tn_nI (by omega)] at hm
  unfold shB
  rw [e]
  split
  · split
    · exact ⟨0, by decide, rfl⟩
    · exact ⟨4, by decide, rfl⟩
  · split
    · split
      · exact ⟨0, by decide, rfl⟩
      · exact ⟨4, by decide, rfl⟩
    · rw [if_neg (nI_nle (by omega) (by omega)), show (4 : Int32) = nI 4 from rfl, pk_mul, pk_div (by omega) (by omega) (by omega)]
      exact ⟨4 * m / c, Nat.div_le_of_le_mul (by rw [Nat.mul_comm c 4]; omega), rfl⟩
theorem shNx_n {T : Nat → Nat → Int32} {r : Nat → Int32} {p : Nat} (ht : tNum T) (hp : p < tn (T 0 1)) : ∃ s, s ≤ 4 ∧ shNx T r p = nI s := by
  unfold shNx
  split
  · exact ⟨0, by decide, rfl⟩
  · obtain ⟨m, hm, e⟩ := tc_n (T := T) (r := r) (p := p) (tn (T 6 p))
    rw [e]
    exact shB_n ht hp hm
/-- all shades of the next step, as digits -/
def sdg (T : Nat → Nat → Int32) (r : Nat → Int32) (p : Nat) : Nat := tn (shNx T r p)
theorem sdg_n {T : Nat → Nat → Int32} {r : Nat → Int32} {p : Nat} (ht : tNum T) (hp : p < tn (T 0 1)) : sdg T r p < 5 ∧ shNx T r p = nI (sdg T r p) := by
  obtain ⟨s, h1, e⟩ := shNx_n (r := r) ht hp
  unfold sdg
  rw [e, tn_nI (by omega)]
  exact ⟨by omega, rfl⟩
theorem stN_n {T : Nat → Nat → Int32} {r : Nat → Int32} (ht : tNum T) : stN T r (tn (T 0 1)) 0 = nI (num (sdg T r) (tn (T 0 1))) := by
  rw [stN_sh, show (0 : Int32) = nI 0 from rfl, shOf_n (d := sdg T r) _ _ (fun p hp => by rw [Nat.add_sub_cancel_left]; exact (sdg_n ht hp).2), Nat.zero_mul, Nat.zero_add]
/-- the row of a step -/
def stR (T : Nat → Nat → Int32) (r : Nat → Int32) : Nat → Int32 := fun i => if 8 ≤ i ∧ i < 8 + tn (T 0 1) then shNx T r (i - 8) else r i
theorem pw6 {a n : Nat} (hn : n ≤ 6) (h : a < 5 ^ n) : a < 15625 := by
  have h2 : 5 ^ n ≤ 5 ^ 6 := Nat.pow_le_pow_right (by decide) hn
  omega
/-- shades are such: 0 to 4, none behind the pages -/
def rSh (T : Nat → Nat → Int32) (r : Nat → Int32) : Prop := (∀ p, p < 6 → ∃ m, m ≤ 4 ∧ r (8 + p) = nI m) ∧ ∀ p, p < 6 → tn (T 0 1) ≤ p → r (8 + p) = nI 0
theorem ptS_st {T : Nat → Nat → Int32} {r : Nat → Int32} (ht : tNum T) (hP : tn (T 0 1) ≤ 6) (hr : rSh T r) : ptS (stN T r (tn (T 0 1)) 0) 6 0 r = stR T r := by
  have hd : ∀ q, q < tn (T 0 1) → sdg T r q < 5 := fun q hq => (sdg_n ht hq).1
  have hb := pw6 hP (num_lt _ hd)
  funext i
  rw [stN_n ht, ptS_at 6 0 _ r (by omega) i]
  unfold stR
  by_cases h : 8 + 0 ≤ i ∧ i < 8 + 0 + 6
  · rw [if_pos h]
    by_cases h2 : 8 ≤ i ∧ i < 8 + tn (T 0 1)
    · rw [if_pos h2, show i - 8 - 0 = i - 8 by omega, num_dig _ (i - 8) hd (by omega)]
      exact (sdg_n ht (by omega)).2.symm
    · rw [if_neg h2, num_dig0 hd (by omega)]
      have := hr.2 (i - 8) (by omega) (by omega)
      rw [show 8 + (i - 8) = i by omega] at this
      exact this.symm
  · rw [if_neg h, if_neg (by omega)]
theorem stR_sh {T : Nat → Nat → Int32} {r : Nat → Int32} (ht : tNum T) (hP : tn (T 0 1) ≤ 6) (hr : rSh T r) : rSh T (stR T r) := by
  refine ⟨fun p hp => ?_, fun p hp h => ?_⟩
  · unfold stR
    by_cases h : 8 ≤ 8 + p ∧ 8 + p < 8 + tn (T 0 1)
    · rw [if_pos h, Nat.add_sub_cancel_left]
      exact shNx_n ht (by omega)
    · rw [if_neg h]; exact hr.1 p hp
  · unfold stR
    rw [if_neg (by omega)]
    exact hr.2 p hp h
def rdg (r : Nat → Int32) (p : Nat) : Nat := tn (r (8 + p))
theorem rdg_n {T : Nat → Nat → Int32} {r : Nat → Int32} (hr : rSh T r) {p : Nat} (hp : p < 6) : rdg r p < 5 ∧ r (8 + p) = nI (rdg r p) := by
  obtain ⟨m, h1, e⟩ := hr.1 p hp
  unfold rdg
  rw [e, tn_nI (by omega)]
  exact ⟨by omega, rfl⟩
theorem shOf_r {T : Nat → Nat → Int32} {r : Nat → Int32} (hr : rSh T r) {n : Nat} (hn : n ≤ 6) : shOf r n 0 = nI (num (rdg r) n) := by
  rw [show (0 : Int32) = nI 0 from rfl, shOf_n (d := rdg r) _ _ (fun p hp => (rdg_n hr (by omega)).2), Nat.zero_mul, Nat.zero_add]
theorem shOf_P {T : Nat → Nat → Int32} {r : Nat → Int32} (hr : rSh T r) (hP : tn (T 0 1) ≤ 6) : shOf r (tn (T 0 1)) 0 = shOf r 6 0 := by
  rw [shOf_r hr hP, shOf_r hr (Nat.le_refl _)]
  have e := num_more (d := rdg r) (n := tn (T 0 1)) (6 - tn (T 0 1)) (fun p h1 h2 => by unfold rdg; rw [hr.2 p (by omega) h1]; rfl)
  rw [show tn (T 0 1) + (6 - tn (T 0 1)) = 6 by omega] at e
  rw [e]
/-- a step changes nothing just if its number is the one that was -/
theorem st_eq {T : Nat → Nat → Int32} {r : Nat → Int32} (ht : tNum T) (hP : tn (T 0 1) ≤ 6) (hr : rSh T r) : stN T r (tn (T 0 1)) 0 = shOf r 6 0 ↔ ∀ p, p < tn (T 0 1) → shNx T r p = r (8 + p) := by
  have hd : ∀ q, q < tn (T 0 1) → sdg T r q < 5 := fun q hq => (sdg_n ht hq).1
  have hd2 : ∀ q, q < tn (T 0 1) → rdg r q < 5 := fun q hq => (rdg_n hr (by omega)).1
  have b1 := pw6 hP (num_lt _ hd)
  have b2 := pw6 hP (num_lt _ hd2)
  rw [← shOf_P hr hP, shOf_r hr hP, stN_n ht, nI_eq (by omega) (by omega)]
  constructor
  · intro e p hp
    rw [(sdg_n ht hp).2, (rdg_n hr (by omega)).2, ← num_dig _ p hd hp, e, num_dig _ p hd2 hp]
  · intro e
    refine num_congr _ (fun p hp => ?_)
    unfold sdg rdg
    rw [e p hp]
/-! worlds: how many ways facts have -/
def mo (T : Nat → Nat → Int32) (f : Nat) : Nat := tn (T 1 f)
/-- how many ways the first n facts have -/
def prd (m : Nat → Nat) : Nat → Nat
  | 0 => 1
  | n + 1 => prd m n * (m n + 1)
/-- worlds of a text -/
def tW (T : Nat → Nat → Int32) : Prop := prd (mo T) (tn (T 0 0)) ≤ 2000 ∧ T 0 6 = nI (prd (mo T) (tn (T 0 0))) ∧ ∀ f, f < tn (T 0 0) → T 3 f = nI (prd (mo T) f)

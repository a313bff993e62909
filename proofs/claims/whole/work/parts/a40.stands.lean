/-! STANDS: spec, and what is pure of it -/
/-- the row with the shades of number s -/
def pRow (T : Nat → Nat → Int32) (s : Nat) (r : Nat → Int32) : Nat → Int32 := fun i => if 8 ≤ i ∧ i < 8 + tn (T 0 1) then nI (dg s (i - 8)) else r i
/-- the shades of number s could stand -/
def stP (T : Nat → Nat → Int32) (r : Nat → Int32) (s : Nat) : Prop := s < 5 ^ tn (T 0 1) ∧ ∀ p, p < tn (T 0 1) → shNx T (pRow T s r) p = nI (dg s p)
noncomputable def oStands (T : Nat → Nat → Int32) (r : Nat → Int32) (i : Int32) : Int32 := if i < -1 then -1 else selP (stP T r) i (5 ^ tn (T 0 1)) 0 0
theorem nI_m1 {c : Nat} (h : c < 2 ^ 31) : ¬ nI c = -1 := by
  intro e
  have : (nI c).toBitVec.toNat = (-1 : Int32).toBitVec.toNat := by rw [e]
  have e2 : (BitVec.ofNat 32 c).toNat = 4294967295 := this
  rw [BitVec.toNat_ofNat] at e2
  omega
theorem cntP_mo {P : Nat → Prop} {w : Nat} : ∀ k, cntP P w ≤ cntP P (w + k) := by
  intro k
  induction k with
  | zero => exact Nat.le_refl _
  | succ k ih =>
    by_cases h : P (w + k)
    · have := cntP_1 h; show _ ≤ cntP P (w + k + 1); omega
    · have := cntP_0 h; show _ ≤ cntP P (w + k + 1); omega
theorem selP_m {P : Nat → Prop} : ∀ k w c, w + k < 2 ^ 31 → c = cntP P w → selP P (-1) k w c = nI (cntP P (w + k)) := by
  intro k
  induction k with
  | zero => intro w c _ hc; rw [selP_z, if_pos rfl, hc]; rfl
  | succ k ih =>
    intro w c hw hc
    have hle := cntP_le (P := P) w
    have e : w + (k + 1) = w + 1 + k := by omega
    rw [e]
    by_cases h : P w
    · rw [selP_1 h, if_neg (nI_m1 (by omega)), ih (w + 1) (c + 1) (by omega) (by rw [cntP_1 h, hc])]
    · rw [selP_0 h, ih (w + 1) c (by omega) (by rw [cntP_0 h, hc])]
theorem selP_n {P : Nat → Prop} {i : Nat} (hi : i < 2 ^ 31) : ∀ k w c, w + k < 2 ^ 31 → c = cntP P w → cntP P (w + k) ≤ i → selP P (nI i) k w c = -1 := by
  intro k
  induction k with
  | zero => intro w c _ _ _; rw [selP_z, if_neg (nI_m1 hi)]
  | succ k ih =>
    intro w c hw hc hle
    have hl := cntP_le (P := P) w
    have e : w + (k + 1) = w + 1 + k := by omega
    rw [e] at hle
    have hm := cntP_mo (P := P) (w := w + 1) k
    by_cases h : P w
    · rw [cntP_1 h] at hm
      rw [selP_1 h, if_neg (fun q => by have := (nI_eq (by omega) hi).mp q; omega)]
      exact ih (w + 1) (c + 1) (by omega) (by rw [cntP_1 h, hc]) hle
    · rw [selP_0 h]
      exact ih (w + 1) c (by omega) (by rw [cntP_0 h, hc]) hle
theorem selP_s {P : Nat → Prop} {i s : Nat} (hP : P s) (hi : cntP P s = i) : ∀ k w c, w + k < 2 ^ 31 → w ≤ s → s < w + k → c = cntP P w → selP P (nI i) k w c = nI s := by
  intro k
  induction k with
  | zero => intro w c _ h1 h2 _; omega
  | succ k ih =>
    intro w c hw h1 h2 hc
    have hl := cntP_le (P := P) w
    have hl2 := cntP_le (P := P) s
    by_cases e : s = w
    · subst e
      rw [selP_1 hP, if_pos (by rw [hc, hi])]
    · have hm := cntP_mo (P := P) (w := w + 1) (s - (w + 1))
      rw [show w + 1 + (s - (w + 1)) = s by omega] at hm
      by_cases h : P w
      · rw [cntP_1 h] at hm
        rw [selP_1 h, if_neg (fun q => by have := (nI_eq (by omega) (by omega)).mp q; omega)]
        exact ih (w + 1) (c + 1) (by omega) (by omega) (by omega) (by rw [cntP_1 h, hc])
      · rw [selP_0 h]
        exact ih (w + 1) c (by omega) (by omega) (by omega) (by rw [cntP_0 h, hc])
theorem cntP_w {P : Nat → Prop} {X a : Nat} : ∀ n, (∀ j, j < n → (bX X j = true ↔ P (a + j))) → cntP P (a + n) = cntP P a + cnt (bX X) n := by
  intro n
  induction n with
  | zero => intro _; rfl
  | succ n ih =>
    intro h
    have i := ih (fun j hj => h j (by omega))
    have hn := h n (by omega)
    show cntP P (a + n + 1) = cntP P a + (if bX X n then cnt (bX X) n + 1 else cnt (bX X) n)
    by_cases q : bX X n = true
    · rw [cntP_1 (hn.mp q), if_pos q, i]; omega
    · rw [cntP_0 (fun z => q (hn.mpr z)), if_neg q, i]
theorem cntP_none {P : Nat → Prop} {a : Nat} : ∀ n, (∀ j, a ≤ j → ¬ P j) → cntP P (a + n) = cntP P a := by
  intro n h
  induction n with
  | zero => rfl
  | succ n ih => rw [show a + (n + 1) = a + n + 1 by omega, cntP_0 (h _ (by omega)), ih]
theorem uL_or {a b : Int64} : uL (a ||| b) = uL a ||| uL b := by
  show (a ||| b).toBitVec.toNat = _
  rw [Int64.toBitVec_or, BitVec.toNat_or]
  rfl
theorem bX_t {X j : Nat} : bX X j = X.testBit j := by
  unfold bX
  rw [Nat.testBit_eq_decide_div_mod_eq]
theorem one_sh : ∀ j, j < 64 → uL ((1 : Int64) <<< ((nI j).toInt64 &&& 63)) = 2 ^ j := by decide +kernel
theorem bX_one {X i j : Nat} : bX (X ||| 2 ^ j) i = (bX X i || decide (j = i)) := by
  rw [bX_t, bX_t, Nat.testBit_or, Nat.testBit_two_pow]
theorem sh_b : ∀ j, j < 64 → ((nI j).toInt64.toUInt64 &&& Int64.toUInt64 63).toNat % 64 = j := by decide +kernel
theorem bit64 {x : Int64} {j : Nat} (hj : j < 64) : lg_cmp ((x.toUInt64 >>> ((nI j).toInt64.toUInt64 &&& Int64.toUInt64 63)).toInt64 &&& 1) 1 = 0 ↔ bX (uL x) j = true := by
  rw [lg_cmp_eq]
  have e : uL ((x.toUInt64 >>> ((nI j).toInt64.toUInt64 &&& Int64.toUInt64 63)).toInt64 &&& 1) = uL x / 2 ^ j % 2 := by
    rw [uL_and, uL_shr, sh_b j hj]
    show uL x / 2 ^ j &&& 1 = _
    exact Nat.and_one_is_mod _
  unfold bX
  rw [decide_eq_true_iff, ← e]
  constructor
  · intro q; rw [q]; rfl
  · intro q
    apply Int64.toBitVec_inj.mp
    apply BitVec.eq_of_toNat_eq
    exact q
theorem bX_0 {j : Nat} : bX 0 j = false := by
  unfold bX
  rw [Nat.zero_div]
  rfl
theorem uL_0 : uL 0 = 0 := rfl

/-! BITS OF A NUMBER -/
def gb (x : Int32) (f : Nat) : Bool := x.toBitVec.getLsbD f
theorem shr_bv {x : Int32} {f : Nat} (hf : f < 32) : (x >>> (nI f &&& 31)).toBitVec = x.toBitVec.sshiftRight f := by
  have e := sm32 f hf
  show x.toBitVec.sshiftRight' ((nI f &&& 31).toBitVec.smod 32) = _
  unfold BitVec.sshiftRight'
  rw [e]
theorem one_get {y : Int32} : y &&& 1 = 1 ↔ y.toBitVec.getLsbD 0 = true := by
  rw [← Int32.toBitVec_inj]
  show y.toBitVec &&& 1#32 = 1#32 ↔ _
  rw [BitVec.and_one_eq_setWidth_ofBool_getLsbD]
  cases y.toBitVec.getLsbD 0 <;> decide
theorem bit_get {x : Int32} {f : Nat} (hf : f < 32) : (x >>> (nI f &&& 31)) &&& 1 = 1 ↔ gb x f = true := by
  rw [one_get, shr_bv hf, BitVec.getLsbD_sshiftRight]
  unfold gb
  simp [hf]
theorem gb_not {x : Int32} {f : Nat} (hf : f < 32) : gb (x ^^^ (-1)) f = !gb x f := by
  unfold gb
  show (x.toBitVec ^^^ (-1 : Int32).toBitVec).getLsbD f = _
  rw [BitVec.getLsbD_xor, show (-1 : Int32).toBitVec = BitVec.allOnes 32 from by decide, BitVec.getLsbD_allOnes, decide_eq_true hf, Bool.xor_true]
theorem gb_or {x y : Int32} {f : Nat} : gb (x ||| y) f = (gb x f || gb y f) := by
  unfold gb
  show (x.toBitVec ||| y.toBitVec).getLsbD f = _
  rw [BitVec.getLsbD_or]
theorem gb_and {x y : Int32} {f : Nat} : gb (x &&& y) f = (gb x f && gb y f) := by
  unfold gb
  show (x.toBitVec &&& y.toBitVec).getLsbD f = _
  rw [BitVec.getLsbD_and]
theorem gb_xor {x y : Int32} {f : Nat} : gb (x ^^^ y) f = (gb x f ^^ gb y f) := by
  unfold gb
  show (x.toBitVec ^^^ y.toBitVec).getLsbD f = _
  rw [BitVec.getLsbD_xor]
theorem bt_n : ∀ f, f < 31 → bt f = nI (2 ^ f) := by decide +kernel
theorem gb_bt : ∀ f, f < 32 → ∀ i, i < 32 → gb (bt f) i = decide (i = f) := by decide +kernel
theorem gb_ext {x y : Int32} (h : ∀ i, i < 32 → gb x i = gb y i) : x = y := by
  apply Int32.toBitVec_inj.mp
  apply BitVec.eq_of_getLsbD_eq
  intro i hi
  exact h i hi
theorem gb_0 {i : Nat} : gb 0 i = false := by
  unfold gb
  show (0#32).getLsbD i = false
  rw [BitVec.getLsbD_zero]
theorem gb_bor {f : Nat → Bool} {i : Nat} (hi : i < 32) : ∀ n, n ≤ 32 → gb (bor (fun j => if f j = true then bt j else 0) n) i = (decide (i < n) && f i) := by
  intro n
  induction n with
  | zero => intro _; show gb 0 i = _; rw [gb_0]; simp
  | succ n ih =>
    intro hn
    show gb (bor (fun j => if f j = true then bt j else 0) n ||| (if f n = true then bt n else 0)) i = _
    rw [gb_or, ih (by omega)]
    by_cases q : f n = true
    · rw [if_pos q, gb_bt n (by omega) i hi]
      by_cases e : i = n
      · subst e; simp [q]
      · rw [decide_eq_false e, Bool.or_false]
        congr 1
        by_cases z : i < n
        · rw [decide_eq_true z, decide_eq_true (by omega)]
        · rw [decide_eq_false z, decide_eq_false (by omega)]
    · rw [if_neg q, gb_0, Bool.or_false]
      by_cases e : i = n
      · subst e
        have q : f i = false := by cases h : f i <;> simp_all
        rw [q, Bool.and_false, Bool.and_false]
      · congr 1
        by_cases z : i < n
        · rw [decide_eq_true z, decide_eq_true (by omega)]
        · rw [decide_eq_false z, decide_eq_false (by omega)]

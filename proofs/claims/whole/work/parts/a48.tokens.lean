/-! TOKENS: bytes, runs of them, names, words -/
/-- byte k as a row of bytes holds it -/
def sx (k : Nat) : Int32 := (nI k).toInt8.toInt32
theorem i8_sx (q : Int8) : ∃ k, k < 256 ∧ q.toInt32 = sx k := by
  refine ⟨q.toBitVec.toNat, q.toBitVec.isLt, ?_⟩
  unfold sx
  have : (nI q.toBitVec.toNat).toInt8 = q := by
    apply Int8.toBitVec_inj.mp
    rw [Int32.toBitVec_toInt8, BitVec.signExtend_eq_setWidth_of_le _ (by decide)]
    apply BitVec.eq_of_toNat_eq
    rw [BitVec.toNat_setWidth]
    show (BitVec.ofNat 32 q.toBitVec.toNat).toNat % 2 ^ 8 = _
    have := q.toBitVec.isLt
    rw [BitVec.toNat_ofNat]
    omega
  rw [this]
theorem byt_sx (w s : Int32) : ∃ k, k < 256 ∧ byt w s = sx k := i8_sx _
def isL (k : Nat) : Bool := decide (97 ≤ k) && decide (k ≤ 122)
def isD (k : Nat) : Bool := decide (48 ≤ k) && decide (k ≤ 57)
def isW (k : Nat) : Bool := decide (k = 9) || decide (k = 10) || decide (k = 13) || decide (k = 32)
def isS (k : Nat) : Bool := decide (k = 59) || decide (k = 61) || decide (k = 43) || decide (k = 45) || decide (k = 42) || decide (k = 47) || decide (k = 60) || decide (k = 62) || decide (k = 40) || decide (k = 41)
theorem sx_n : ∀ k, k < 128 → sx k = nI k := by decide +kernel
theorem sx_255 : ∀ k, k < 256 → sx k &&& 255 = nI k := by decide +kernel
theorem sx_8 : ∀ k, k < 256 → (sx k).toInt8.toInt32 = sx k := by decide +kernel
theorem sx_L : ∀ k, k < 256 → (isL k = true ↔ ¬ sx k < 97 ∧ ¬ 122 < sx k) := by decide +kernel
theorem sx_D : ∀ k, k < 256 → (isD k = true ↔ ¬ sx k < 48 ∧ ¬ 57 < sx k) := by decide +kernel
theorem sx_W : ∀ k, k < 256 → (isW k = true ↔ sx k = 9 ∨ sx k = 10 ∨ sx k = 13 ∨ sx k = 32) := by decide +kernel
theorem sx_S : ∀ k, k < 256 → (isS k = true ↔ ¬ sx k ≤ 0 ∧ ¬ (x_idx (x_txt 3) (((sx k).toUInt32 % 65536).toInt32).toInt 0) < 0) := by decide +kernel
theorem nk_L : ∀ k, k < 256 → (isL k = true ↔ ¬ nI k < 97 ∧ ¬ 122 < nI k) := by decide +kernel
theorem nk_D : ∀ k, k < 256 → (isD k = true ↔ ¬ nI k < 48 ∧ ¬ 57 < nI k) := by decide +kernel
/-- where the run of p from i on ends; f places are looked at -/
def rnE (p : Nat → Bool) (B : Nat → Nat) (n : Nat) : Nat → Nat → Nat
  | 0, i => i
  | f + 1, i => if i < n ∧ p (B i) = true then rnE p B n f (i + 1) else i
def enR (p : Nat → Bool) (B : Nat → Nat) (n i : Nat) : Nat := rnE p B n (n - i) i
section RUN
variable {p : Nat → Bool} {B : Nat → Nat} {n i : Nat}
theorem rnE_s : ∀ f i, n ≤ i + f → i < n → p (B i) = true → rnE p B n f i = rnE p B n (f - 1) (i + 1) := by
  intro f i h1 h2 h3
  cases f with
  | zero => omega
  | succ f => show (if i < n ∧ p (B i) = true then rnE p B n f (i + 1) else i) = _; rw [if_pos ⟨h2, h3⟩]; rfl
theorem enR_1 (h2 : i < n) (h3 : p (B i) = true) : enR p B n i = enR p B n (i + 1) := by
  unfold enR
  rw [rnE_s (n - i) i (by omega) h2 h3, show n - i - 1 = n - (i + 1) by omega]
theorem enR_0 (h3 : ¬ (i < n ∧ p (B i) = true)) : enR p B n i = i := by
  unfold enR
  cases h : n - i with
  | zero => rfl
  | succ f => show (if i < n ∧ p (B i) = true then _ else i) = i; rw [if_neg h3]
theorem enR_le : ∀ f i, n - i = f → i ≤ n → i ≤ enR p B n i ∧ enR p B n i ≤ n := by
  intro f
  induction f with
  | zero =>
    intro i hf hi
    rw [enR_0 (fun q => by omega)]
    omega
  | succ f ih =>
    intro i hf hi
    by_cases q : i < n ∧ p (B i) = true
    · rw [enR_1 q.1 q.2]
      have := ih (i + 1) (by omega) (by omega)
      omega
    · rw [enR_0 q]; omega
theorem enR_in (hi : i ≤ n) : i ≤ enR p B n i ∧ enR p B n i ≤ n := enR_le (n - i) i rfl hi
end RUN
/-- the letters of a name, the last one first -/
def ltS (B : Nat → Nat) (i : Nat) : Nat → List Nat
  | 0 => []
  | m + 1 => (B (i + m) - 96) :: ltS B i m
def dvS (B : Nat → Nat) (i : Nat) : Nat → Nat
  | 0 => 0
  | m + 1 => 10 * dvS B i m + (B (i + m) - 48)
/-- a name as a number, by base -/
def enc (b : Nat) : List Nat → Nat
  | [] => 0
  | d :: t => b * enc b t + d
def okN (l : List Nat) : Prop := ∀ d ∈ l, 1 ≤ d ∧ d ≤ 26
theorem enc_inj {b : Nat} (hb : 27 ≤ b) : ∀ l m : List Nat, okN l → okN m → enc b l = enc b m → l = m := by
  intro l
  induction l with
  | nil =>
    intro m _ hm e
    cases m with
    | nil => rfl
    | cons d t =>
      have := hm d List.mem_cons_self
      have e : 0 = b * enc b t + d := e
      omega
  | cons d t ih =>
    intro m hl hm e
    have hd := hl d List.mem_cons_self
    cases m with
    | nil =>
      have e : b * enc b t + d = 0 := e
      omega
    | cons d' t' =>
      have hd' := hm d' List.mem_cons_self
      have e : b * enc b t + d = b * enc b t' + d' := e
      have e1 : (b * enc b t + d) % b = d := by rw [Nat.mul_add_mod, Nat.mod_eq_of_lt (by omega)]
      have e2 : (b * enc b t' + d') % b = d' := by rw [Nat.mul_add_mod, Nat.mod_eq_of_lt (by omega)]
      have ed : d = d' := by rw [← e1, ← e2, e]
      subst ed
      have et : b * enc b t = b * enc b t' := by omega
      have : enc b t = enc b t' := Nat.eq_of_mul_eq_mul_left (by omega) et
      rw [ih t' (fun x hx => hl x (List.mem_cons_of_mem _ hx)) (fun x hx => hm x (List.mem_cons_of_mem _ hx)) this]
theorem enc_lt {b : Nat} (hb : 27 ≤ b) : ∀ l : List Nat, okN l → enc b l < b ^ l.length := by
  intro l
  induction l with
  | nil => intro _; exact Nat.one_pos
  | cons d t ih =>
    intro h
    have h1 := ih (fun x hx => h x (List.mem_cons_of_mem _ hx))
    have hd := h d List.mem_cons_self
    show b * enc b t + d < b ^ (t.length + 1)
    rw [Nat.pow_succ, Nat.mul_comm (b ^ t.length) b]
    have : b * (enc b t + 1) ≤ b * b ^ t.length := Nat.mul_le_mul_left _ h1
    rw [Nat.mul_add] at this
    omega
theorem ltS_len {B : Nat → Nat} {i : Nat} : ∀ m, (ltS B i m).length = m := by
  intro m
  induction m with
  | zero => rfl
  | succ m ih => show (ltS B i m).length + 1 = m + 1; rw [ih]
theorem ltS_ok {B : Nat → Nat} {i : Nat} : ∀ m, (∀ j, j < m → isL (B (i + j)) = true) → okN (ltS B i m) := by
  intro m
  induction m with
  | zero => intro _ d hd; cases hd
  | succ m ih =>
    intro h d hd
    have hm := h m (by omega)
    unfold isL at hm
    simp at hm
    rcases List.mem_cons.mp hd with e | e
    · subst e; omega
    · exact ih (fun j hj => h j (by omega)) d e
theorem enR_all {p : Nat → Bool} {B : Nat → Nat} {n : Nat} : ∀ f i, n - i = f → ∀ j, i ≤ j → j < enR p B n i → p (B j) = true := by
  intro f
  induction f with
  | zero =>
    intro i hf j h1 h2
    rw [enR_0 (fun q => by omega)] at h2
    omega
  | succ f ih =>
    intro i hf j h1 h2
    by_cases q : i < n ∧ p (B i) = true
    · by_cases e : j = i
      · subst e; exact q.2
      · rw [enR_1 q.1 q.2] at h2
        exact ih (i + 1) (by omega) j (by omega) h2
    · rw [enR_0 q] at h2; omega
/-- the words, in one order and in the other's -/
def KW (w : Nat) : List Nat := ([[20, 3, 1, 6], [5, 14, 9, 13], [19, 18, 21, 15, 25], [19, 5, 15, 7], [5, 7, 1, 16], [12, 12, 1], [5, 13, 15, 19], [20, 18, 1, 16], [4, 14, 1], [19, 16, 9, 12, 19], [4, 5, 5, 19], [6, 9], [14, 5, 8, 20], [5, 19, 12, 5], [19, 9, 8, 20], [25, 1, 4]] : List (List Nat)).getD w []
def KRi (k : Nat) : Nat := ([0, 3, 4, 5, 6, 7, 8, 9, 10, 11, 12, 13, 1, 2, 14, 15] : List Nat).getD k 0
def kwF (nm : List Nat) : Nat → Nat → Nat
  | 0, _ => 2
  | k + 1, w => if KW w = nm then 100 + w else kwF nm k (w + 1)
def krF (nm : List Nat) : Nat → Nat
  | 0 => 1
  | k + 1 => if KW (KRi k) = nm then 20 + k else krF nm k
/-- a kind, as the reference calls it -/
def rkd (k : Nat) : Nat := if k = 0 then 0 else if k = 1 then 3 else if k = 2 then 1 else if k = 3 then 2 else if k = 59 then 4 else if k = 61 then 5 else if k = 40 then 6 else if k = 41 then 7 else if k = 43 then 8 else if k = 45 then 9 else if k = 42 then 10 else if k = 60 then 13 else if k = 47 then 15 else if k = 62 then 16 else ([20, 32, 33, 21, 22, 23, 24, 25, 26, 27, 28, 29, 30, 31, 34, 35] : List Nat).getD (k - 100) 3
theorem kr_w : ∀ w, w < 16 → krF (KW w) 16 = rkd (kwF (KW w) 16 0) := by decide
theorem KRi_lt : ∀ k, k < 16 → KRi k < 16 := by decide
theorem kr_kw {nm : List Nat} : krF nm 16 = rkd (kwF nm 16 0) := by
  by_cases h : ∃ w, w < 16 ∧ KW w = nm
  · obtain ⟨w, hw, e⟩ := h
    rw [← e]
    exact kr_w w hw
  · have h1 : ∀ k w, w + k ≤ 16 → kwF nm k w = 2 := by
      intro k
      induction k with
      | zero => intro w _; rfl
      | succ k ih =>
        intro w hw
        show (if KW w = nm then 100 + w else kwF nm k (w + 1)) = 2
        rw [if_neg (fun q => h ⟨w, by omega, q⟩), ih (w + 1) (by omega)]
    have h2 : ∀ k, k ≤ 16 → krF nm k = 1 := by
      intro k
      induction k with
      | zero => intro _; rfl
      | succ k ih =>
        intro hk
        show (if KW (KRi k) = nm then 20 + k else krF nm k) = 1
        rw [if_neg (fun q => h ⟨KRi k, KRi_lt k (by omega), q⟩), ih (by omega)]
    rw [h1 16 0 (by omega), h2 16 (by omega)]
    rfl
theorem KW_ok : ∀ w, w < 16 → okN (KW w) ∧ (KW w).length ≤ 5 ∧ 1 ≤ (KW w).length := by
  have : ∀ w, w < 16 → (∀ d ∈ KW w, 1 ≤ d ∧ d ≤ 26) ∧ (KW w).length ≤ 5 ∧ 1 ≤ (KW w).length := by decide
  exact this
theorem kwF_r {nm : List Nat} : ∀ k w, w + k = 16 → kwF nm k w = 2 ∨ (100 ≤ kwF nm k w ∧ kwF nm k w < 116) := by
  intro k
  induction k with
  | zero => intro w _; exact Or.inl rfl
  | succ k ih =>
    intro w hw
    show (if KW w = nm then 100 + w else kwF nm k (w + 1)) = 2 ∨ (100 ≤ (if KW w = nm then 100 + w else kwF nm k (w + 1)) ∧ (if KW w = nm then 100 + w else kwF nm k (w + 1)) < 116)
    split
    · exact Or.inr ⟨by omega, by omega⟩
    · exact ih (w + 1) (by omega)
/-- the end, the kind of the token at i -/
def tE (B : Nat → Nat) (n i : Nat) : Nat := if isL (B i) = true then enR isL B n i else if isD (B i) = true then enR isD B n i else i + 1
def tK (B : Nat → Nat) (n i : Nat) : Nat := if isL (B i) = true then (if 8 < tE B n i - i then 1 else kwF (ltS B i (tE B n i - i)) 16 0) else if isD (B i) = true then (if 4 < tE B n i - i then 1 else 3) else if isS (B i) = true then B i else 1
def pS (B : Nat → Nat) (n : Nat) : Nat → Nat
  | 0 => enR isW B n 0
  | j + 1 => if pS B n j < n then enR isW B n (tE B n (pS B n j)) else n
/-- kind, name and number of token j -/
def kS (B : Nat → Nat) (n j : Nat) : Nat := if pS B n j < n then tK B n (pS B n j) else 0
def nS (B : Nat → Nat) (n j : Nat) : List Nat := ltS B (pS B n j) (tE B n (pS B n j) - pS B n j)
def vS (B : Nat → Nat) (n j : Nat) : Nat := dvS B (pS B n j) (tE B n (pS B n j) - pS B n j)
section TOK
variable {B : Nat → Nat} {n i j : Nat}
theorem tE_in (hi : i < n) : i < tE B n i ∧ tE B n i ≤ n := by
  unfold tE
  by_cases q : isL (B i) = true
  · rw [if_pos q, enR_1 hi q]
    have := enR_in (p := isL) (B := B) (n := n) (i := i + 1) (by omega)
    omega
  · rw [if_neg q]
    by_cases q2 : isD (B i) = true
    · rw [if_pos q2, enR_1 hi q2]
      have := enR_in (p := isD) (B := B) (n := n) (i := i + 1) (by omega)
      omega
    · rw [if_neg q2]; omega
theorem pS_le : ∀ j, pS B n j ≤ n := by
  intro j
  induction j with
  | zero => exact (enR_in (Nat.zero_le _)).2
  | succ j ih =>
    show (if pS B n j < n then _ else n) ≤ n
    split
    · rename_i q
      exact (enR_in (tE_in q).2).2
    · exact Nat.le_refl _
theorem pS_s (h : pS B n j < n) : pS B n (j + 1) = enR isW B n (tE B n (pS B n j)) := if_pos h
theorem pS_lt (h : pS B n j < n) : pS B n j < pS B n (j + 1) := by
  rw [pS_s h]
  have h1 := tE_in (B := B) h
  have h2 := (enR_in (p := isW) (B := B) h1.2).1
  omega
end TOK

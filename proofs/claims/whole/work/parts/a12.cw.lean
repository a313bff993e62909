/-! THE CLASS: questions about worlds -/
def CW (T : Nat → Nat → Int32) (c : Nat) (r : Nat → Int32) (h : XH) : Prop := CM T c h ∧ EqR (xI h 39) r ∧ rOk T r ∧ WOk T r h ∧ RmOk h
def CWn (T : Nat → Nat → Int32) (c : Nat) (r : Nat → Int32) (h : XH) : Prop := CM T c h ∧ EqR (xI h 39) r ∧ rOk T r ∧ WOn T r h ∧ RmOk h
theorem CWn.to {T : Nat → Nat → Int32} {c : Nat} {r : Nat → Int32} {h : XH} (q : CWn T c r h) : CW T c r h := ⟨q.1, q.2.1, q.2.2.1, Or.inr q.2.2.2.1, q.2.2.2.2⟩
/-- a page's shade in a number of all -/
def dg (s p : Nat) : Nat := s / 5 ^ p % 5
def blk (T : Nat → Nat → Int32) (r : Nat → Int32) (p w : Nat) : Bool := decide (dg (wsh T r w) p = 4)
def aSum (T : Nat → Nat → Int32) (r : Nat → Int32) (p : Nat) : Nat → Nat
  | 0 => 0
  | w + 1 => aSum T r p w + dg (wsh T r w) p
theorem dg_le {s p : Nat} : dg s p ≤ 4 := Nat.le_of_lt_succ (Nat.mod_lt _ (by decide))
theorem aSum_le {T : Nat → Nat → Int32} {r : Nat → Int32} {p : Nat} : ∀ n, aSum T r p n ≤ 4 * n := by
  intro n
  induction n with
  | zero => exact Nat.le_refl _
  | succ n ih =>
    have := dg_le (s := wsh T r n) (p := p)
    show aSum T r p n + dg (wsh T r n) p ≤ 4 * (n + 1)
    omega
/-- the greatest number that divides both, by f steps -/
def gcdF : Nat → Nat → Nat → Nat
  | 0, a, _ => a
  | f + 1, a, b => if b = 0 then a else gcdF f b (a % b)
theorem gcdF_more : ∀ (f a b : Nat), b < 2 ^ (f / 2) ∨ (b < a ∧ a < 2 ^ ((f + 1) / 2)) → ∀ g, f ≤ g → gcdF g a b = gcdF f a b := by
  intro f
  induction f with
  | zero =>
    intro a b h g hg
    have hb : b = 0 := by
      rcases h with h | h
      · simpa using h
      · have : a < 2 ^ 0 := h.2
        omega
    subst hb
    cases g with
    | zero => rfl
    | succ g => show (if 0 = 0 then a else _) = a; rw [if_pos rfl]
  | succ f ih =>
    intro a b h g hg
    obtain ⟨g', rfl⟩ : ∃ g', g = g' + 1 := ⟨g - 1, by omega⟩
    show (if b = 0 then a else gcdF g' b (a % b)) = (if b = 0 then a else gcdF f b (a % b))
    by_cases hb : b = 0
    · rw [if_pos hb, if_pos hb]
    · rw [if_neg hb, if_neg hb]
      refine ih b (a % b) ?_ g' (by omega)
      have hm : a % b < b := Nat.mod_lt _ (by omega)
      rcases h with h | h
      · right
        exact ⟨hm, h⟩
      · left
        have h2 : 2 * (a % b) < a := by
          have h3 := Nat.div_add_mod a b
          have h4 : 1 ≤ a / b := Nat.div_pos (by omega) (by omega)
          have h5 : b * 1 ≤ b * (a / b) := Nat.mul_le_mul_left b h4
          omega
        have e : (f + 1 + 1) / 2 = f / 2 + 1 := by omega
        rw [e, Nat.pow_succ] at h
        omega
theorem gcdF_pos : ∀ (f a b : Nat), 0 < a ∨ 0 < b → f ≠ 0 → 0 < gcdF f a b ∨ (a = 0 ∧ f = 0) := by
  intro f
  induction f with
  | zero => intro a b _ h; exact absurd rfl h
  | succ f ih =>
    intro a b h _
    left
    show 0 < (if b = 0 then a else gcdF f b (a % b))
    by_cases hb : b = 0
    · rw [if_pos hb]; omega
    · rw [if_neg hb]
      cases f with
      | zero => show 0 < b; omega
      | succ f =>
        rcases ih b (a % b) (Or.inl (by omega)) (by omega) with q | q
        · exact q
        · omega
section WQ
variable {T : Nat → Nat → Int32} {c : Nat} {h0 h : XH} {r : Nat → Int32} {Q : Value → XH → Prop} {p : Nat}
theorem CW.fill {K : XH → Prop} (A : CW T c r h) (k : ∀ h1, Hx SW [(43, 4)] h h1 → CWn T c r h1 → K h1) : ClV 100 [.ref 43, .ref 39] h (fun h1 => Sh h1 ∧ K h1) := by
  obtain ⟨M, hr, hro, W, rm⟩ := A
  exact c_fillC M hr hro W rm (fun h1 p W1 => ⟨p.1, k h1 p ⟨M.hx p (by decide) (by decide), by rw [p.at M.1 (by decide) (by decide) (by decide) (by decide)]; exact hr, hro, W1, p.2.2.2.2.1 rm⟩⟩)
theorem CWn.w (A : CWn T c r h) : xI h (xR h 34 0) 6 = nI (wN T) ∧ wN T ≤ 2000 ∧ xI h c 6 = nI (wN T) := ⟨by rw [A.1.2.1, A.1.t0]; exact A.1.2.2.2.w.2.1, A.1.2.2.2.w.1, by rw [A.1.t0]; exact A.1.2.2.2.w.2.1⟩
theorem CWn.len (A : CWn T c r h) : wN T ≤ xN h (xR h 43 4) ∧ xN h (xR h 43 4) ≤ 65536 := by
  refine ⟨A.2.2.2.1.2.1, ?_⟩
  have := A.2.2.2.2.2.2 (43, 4, 1, 46) (by decide)
  unfold okL at this
  simp only [gl] at this
  obtain ⟨a, ha, e⟩ : p2 (xN h (xR h 43 4)) := this
  rw [e]
  exact Nat.pow_le_pow_right (n := 2) (by decide) ha
theorem c_dg {a : Nat} {K : Int32 → XH → Prop} (hs : Sh h) (ha : a < 2 ^ 31) (hp : p < 7) (k : K (nI (dg a p)) h) : ClI 64 [.int (nI a), .int (nI p)] h K := c_sIn hs ha hp k
theorem l_cblk (A : CWn T c r h) (hp : p < 6) (kk : Q (.int (nI (cnt (blk T r p) (wN T)))) h) : ∀ (m w : Nat), w + m = wN T → Ev 111 10 [.ref 43, .int (nI p), .null, .int (nI (cnt (blk T r p) w)), .int (nI w)] [] h Q := by
  obtain ⟨e6, W2, -⟩ := A.w
  obtain ⟨l1, l2⟩ := A.len
  intro m
  induction m with
  | zero =>
    intro w hm
    refine B_111_10 A.1.1 ?_
    try simp (disch := omega) only [lit, tn_nI, z_inb, nI_add, pk_mul, z_le, z_nle, z_lt, z_nlt, z_ne, z_m1, pk_sub, xI_ss, xI_sd, xI_n, eq_self, true_and, and_true, and_self, not_true_eq_false, not_false_eq_true, false_implies, true_implies, implies_true, Classical.not_not, forall_const, true_or, or_true, false_or, or_false, false_and, and_false, if_true, if_false, ite_true, ite_false, reduceIte, reduceCtorEq, e6]
    rw [show w = wN T by omega]
    exact kk
  | succ m ih =>
    intro w hm
    have e := A.2.2.2.1.2.2 w (by omega)
    have hlt := wsh_lt (w := w) A.1.2.2.2 A.2.2.1
    refine B_111_10 A.1.1 ?_
    try simp (disch := omega) only [lit, tn_nI, z_inb, nI_add, pk_mul, z_le, z_nle, z_lt, z_nlt, z_ne, z_m1, pk_sub, xI_ss, xI_sd, xI_n, eq_self, true_and, and_true, and_self, not_true_eq_false, not_false_eq_true, false_implies, true_implies, implies_true, Classical.not_not, forall_const, true_or, or_true, false_or, or_false, false_and, and_false, if_true, if_false, ite_true, ite_false, reduceIte, reduceCtorEq, e6, e]
    have hd := dg_le (s := wsh T r w) (p := p)
    have nx := ih (w + 1) (by omega)
    have eb : cnt (blk T r p) (w + 1) = if blk T r p w then cnt (blk T r p) w + 1 else cnt (blk T r p) w := rfl
    refine c_dg A.1.1 (by omega) (by omega) ⟨A.1.1, ?_⟩
    by_cases q : dg (wsh T r w) p = 4
    · rw [eb, if_pos (show blk T r p w = true from decide_eq_true q)] at nx
      rw [q]
      try simp (disch := omega) only [lit, tn_nI, z_inb, nI_add, pk_mul, z_le, z_nle, z_lt, z_nlt, z_ne, z_m1, pk_sub, xI_ss, xI_sd, xI_n, eq_self, true_and, and_true, and_self, not_true_eq_false, not_false_eq_true, false_implies, true_implies, implies_true, Classical.not_not, forall_const, true_or, or_true, false_or, or_false, false_and, and_false, if_true, if_false, ite_true, ite_false, reduceIte, reduceCtorEq]
      exact nx
    · rw [eb, if_neg (by unfold blk; rw [decide_eq_false q]; decide)] at nx
      try simp (disch := omega) only [lit, tn_nI, z_inb, nI_add, pk_mul, z_le, z_nle, z_lt, z_nlt, z_ne, z_m1, pk_sub, xI_ss, xI_sd, xI_n, eq_self, true_and, and_true, and_self, not_true_eq_false, not_false_eq_true, false_implies, true_implies, implies_true, Classical.not_not, forall_const, true_or, or_true, false_or, or_false, false_and, and_false, if_true, if_false, ite_true, ite_false, reduceIte, reduceCtorEq]
      exact nx
theorem c_cBlackIn {x : Int32} {K : Int32 → XH → Prop} (A : CW T c r h) (k : ∀ h1, Hx SW [(43, 4)] h h1 → CW T c r h1 → K (opN x (tn (T 0 1)) (-1) (fun p => nI (cnt (blk T r p) (wN T)))) h1) : ClI 110 [.ref 4, .int x] h K := by
  have p6 := A.1.p6
  refine B_110_0 A.1.1 (c_cPage A.1 (fun p hp e => ⟨A.1.1, ?_⟩) (fun q => ⟨A.1.1, ?_⟩))
  · subst e
    rw [opN_1 hp (by omega)] at k
    try simp (disch := omega) only [lit, tn_nI, z_inb, nI_add, pk_mul, z_le, z_nle, z_lt, z_nlt, z_ne, z_m1, pk_sub, xI_ss, xI_sd, xI_n, eq_self, true_and, and_true, and_self, not_true_eq_false, not_false_eq_true, false_implies, true_implies, implies_true, Classical.not_not, forall_const, true_or, or_true, false_or, or_false, false_and, and_false, if_true, if_false, ite_true, ite_false, reduceIte, reduceCtorEq]
    exact B_111_0 A.1.1 (A.fill (fun h1 f A1 => l_cblk A1 (by omega) ⟨_, rfl, A1.1.1, _, rfl, k h1 f A1.to⟩ (wN T) 0 (by omega)))
  · rw [opN_0 q] at k
    try simp (disch := omega) only [lit, tn_nI, z_inb, nI_add, pk_mul, z_le, z_nle, z_lt, z_nlt, z_ne, z_m1, pk_sub, xI_ss, xI_sd, xI_n, eq_self, true_and, and_true, and_self, not_true_eq_false, not_false_eq_true, false_implies, true_implies, implies_true, Classical.not_not, forall_const, true_or, or_true, false_or, or_false, false_and, and_false, if_true, if_false, ite_true, ite_false, reduceIte, reduceCtorEq]
    exact ⟨_, rfl, k h (Hx.rf A.1.1) A⟩
theorem l_csum (A : CWn T c r h) (hp : p < 6) (kk : Q (.int (nI (aSum T r p (wN T)))) h) : ∀ (m w : Nat), w + m = wN T → Ev 113 10 [.ref 43, .int (nI p), .null, .int (nI (aSum T r p w)), .int (nI w)] [] h Q := by
  obtain ⟨e6, W2, -⟩ := A.w
  obtain ⟨l1, l2⟩ := A.len
  intro m
  induction m with
  | zero =>
    intro w hm
    refine B_113_10 A.1.1 ?_
    try simp (disch := omega) only [lit, tn_nI, z_inb, nI_add, pk_mul, z_le, z_nle, z_lt, z_nlt, z_ne, z_m1, pk_sub, xI_ss, xI_sd, xI_n, eq_self, true_and, and_true, and_self, not_true_eq_false, not_false_eq_true, false_implies, true_implies, implies_true, Classical.not_not, forall_const, true_or, or_true, false_or, or_false, false_and, and_false, if_true, if_false, ite_true, ite_false, reduceIte, reduceCtorEq, e6]
    rw [show w = wN T by omega]
    exact kk
  | succ m ih =>
    intro w hm
    have e := A.2.2.2.1.2.2 w (by omega)
    have hlt := wsh_lt (w := w) A.1.2.2.2 A.2.2.1
    refine B_113_10 A.1.1 ?_
    try simp (disch := omega) only [lit, tn_nI, z_inb, nI_add, pk_mul, z_le, z_nle, z_lt, z_nlt, z_ne, z_m1, pk_sub, xI_ss, xI_sd, xI_n, eq_self, true_and, and_true, and_self, not_true_eq_false, not_false_eq_true, false_implies, true_implies, implies_true, Classical.not_not, forall_const, true_or, or_true, false_or, or_false, false_and, and_false, if_true, if_false, ite_true, ite_false, reduceIte, reduceCtorEq, e6, e]
    refine c_dg A.1.1 (by omega) (by omega) ⟨A.1.1, ?_⟩
    try simp (disch := omega) only [lit, tn_nI, z_inb, nI_add, pk_mul, z_le, z_nle, z_lt, z_nlt, z_ne, z_m1, pk_sub, xI_ss, xI_sd, xI_n, eq_self, true_and, and_true, and_self, not_true_eq_false, not_false_eq_true, false_implies, true_implies, implies_true, Classical.not_not, forall_const, true_or, or_true, false_or, or_false, false_and, and_false, if_true, if_false, ite_true, ite_false, reduceIte, reduceCtorEq]
    exact ih (w + 1) (by omega)
theorem l_cgcd {f0 : Nat} (hs : Sh h) (hf : f0 ≤ 64) : ∀ (f a b n : Nat), n + f = 64 → a < 2 ^ 31 → b < 2 ^ 31 → Q (.int (nI (gcdF f a b))) h → Ev 114 7 [.null, .null, .int (nI a), .int (nI b), .int (nI n), .null] [] h Q := by
  intro f
  induction f with
  | zero =>
    intro a b n hn ha hb hq
    refine B_114_7 hs ?_
    try simp (disch := omega) only [lit, tn_nI, z_inb, nI_add, pk_mul, z_le, z_nle, z_lt, z_nlt, z_ne, z_m1, pk_sub, xI_ss, xI_sd, xI_n, eq_self, true_and, and_true, and_self, not_true_eq_false, not_false_eq_true, false_implies, true_implies, implies_true, Classical.not_not, forall_const, true_or, or_true, false_or, or_false, false_and, and_false, if_true, if_false, ite_true, ite_false, reduceIte, reduceCtorEq]
    exact hq
  | succ f ih =>
    intro a b n hn ha hb hq
    refine B_114_7 hs ?_
    have hq : Q (.int (nI (if b = 0 then a else gcdF f b (a % b)))) h := hq
    by_cases q : b = 0
    · rw [if_pos q] at hq
      rw [q]
      try simp (disch := omega) only [lit, tn_nI, z_inb, nI_add, pk_mul, z_le, z_nle, z_lt, z_nlt, z_ne, z_m1, pk_sub, xI_ss, xI_sd, xI_n, eq_self, true_and, and_true, and_self, not_true_eq_false, not_false_eq_true, false_implies, true_implies, implies_true, Classical.not_not, forall_const, true_or, or_true, false_or, or_false, false_and, and_false, if_true, if_false, ite_true, ite_false, reduceIte, reduceCtorEq]
      exact hq
    · rw [if_neg q] at hq
      try simp (disch := omega) only [lit, tn_nI, z_inb, nI_add, pk_mul, z_le, z_nle, z_lt, z_nlt, z_ne, z_m1, pk_sub, xI_ss, xI_sd, xI_n, eq_self, true_and, and_true, and_self, not_true_eq_false, not_false_eq_true, false_implies, true_implies, implies_true, Classical.not_not, forall_const, true_or, or_true, false_or, or_false, false_and, and_false, if_true, if_false, ite_true, ite_false, reduceIte, reduceCtorEq, pk_div, z_rem]
      have := Nat.mod_lt a (show 0 < b by omega)
      exact ih b (a % b) (n + 1) (by omega) hb (by omega) hq
/-- GREY: above and below the line -/
def aGrey (T : Nat → Nat → Int32) (r : Nat → Int32) (p : Nat) (below : Int32) : Int32 := if below = 0 then nI (aSum T r p (wN T) / gcdF 64 (aSum T r p (wN T)) (4 * wN T)) else nI (4 * wN T / gcdF 64 (aSum T r p (wN T)) (4 * wN T))
theorem wN_pos : 0 < wN T := prd_pos _
theorem gcd_le : ∀ (f a b : Nat), gcdF f a b ≤ a ∨ gcdF f a b ≤ b := by
  intro f
  induction f with
  | zero => intro a b; exact Or.inl (Nat.le_refl _)
  | succ f ih =>
    intro a b
    show (if b = 0 then a else gcdF f b (a % b)) ≤ a ∨ (if b = 0 then a else gcdF f b (a % b)) ≤ b
    by_cases q : b = 0
    · rw [if_pos q]; exact Or.inl (Nat.le_refl _)
    · rw [if_neg q]
      have := Nat.mod_lt a (show 0 < b by omega)
      rcases ih b (a % b) with z | z
      · exact Or.inr z
      · right; omega
theorem c_cGrey {x y : Int32} {K : Int32 → XH → Prop} (A : CW T c r h) (k : ∀ h1, Hx SW [(43, 4)] h h1 → CW T c r h1 → K (opN x (tn (T 0 1)) (-1) (fun p => aGrey T r p y)) h1) : ClI 112 [.ref 4, .int x, .int y] h K := by
  have p6 := A.1.p6
  refine B_112_0 A.1.1 (c_cPage A.1 (fun p hp e => ⟨A.1.1, ?_⟩) (fun q => ⟨A.1.1, ?_⟩))
  · subst e
    rw [opN_1 hp (by omega)] at k
    try simp (disch := omega) only [lit, tn_nI, z_inb, nI_add, pk_mul, z_le, z_nle, z_lt, z_nlt, z_ne, z_m1, pk_sub, xI_ss, xI_sd, xI_n, eq_self, true_and, and_true, and_self, not_true_eq_false, not_false_eq_true, false_implies, true_implies, implies_true, Classical.not_not, forall_const, true_or, or_true, false_or, or_false, false_and, and_false, if_true, if_false, ite_true, ite_false, reduceIte, reduceCtorEq]
    refine B_113_0 A.1.1 (A.fill (fun h1 f A1 => l_csum A1 (by omega) ⟨_, rfl, A1.1.1, ?_⟩ (wN T) 0 (by omega)))
    obtain ⟨e6, W2, -⟩ := A1.w
    have hsm := aSum_le (T := T) (r := r) (p := p) (wN T)
    have hwp := wN_pos (T := T)
    have hgp : 0 < gcdF 64 (aSum T r p (wN T)) (4 * wN T) := by
      rcases gcdF_pos 64 (aSum T r p (wN T)) (4 * wN T) (Or.inr (by omega)) (by decide) with z | z
      · exact z
      · omega
    have hgl := gcd_le 64 (aSum T r p (wN T)) (4 * wN T)
    try simp (disch := omega) only [lit, tn_nI, z_inb, nI_add, pk_mul, z_le, z_nle, z_lt, z_nlt, z_ne, z_m1, pk_sub, xI_ss, xI_sd, xI_n, eq_self, true_and, and_true, and_self, not_true_eq_false, not_false_eq_true, false_implies, true_implies, implies_true, Classical.not_not, forall_const, true_or, or_true, false_or, or_false, false_and, and_false, if_true, if_false, ite_true, ite_false, reduceIte, reduceCtorEq, e6]
    refine B_114_0 A1.1.1 (l_cgcd (f0 := 0) A1.1.1 (by decide) 64 _ _ 0 (by decide) (by omega) (by omega) ⟨_, rfl, A1.1.1, ?_⟩)
    have k1 := k h1 f A1.to
    unfold aGrey at k1
    try simp (disch := omega) only [lit, tn_nI, z_inb, nI_add, pk_mul, z_le, z_nle, z_lt, z_nlt, z_ne, z_m1, pk_sub, xI_ss, xI_sd, xI_n, eq_self, true_and, and_true, and_self, not_true_eq_false, not_false_eq_true, false_implies, true_implies, implies_true, Classical.not_not, forall_const, true_or, or_true, false_or, or_false, false_and, and_false, if_true, if_false, ite_true, ite_false, reduceIte, reduceCtorEq, pk_div]
    refine ⟨fun z => ⟨_, rfl, ?_⟩, fun z => ⟨_, rfl, ?_⟩⟩
    · rw [if_pos (show y = 0 from z)] at k1; exact k1
    · rw [if_neg (show ¬ y = 0 from z)] at k1; exact k1
  · rw [opN_0 q] at k
    try simp (disch := omega) only [lit, tn_nI, z_inb, nI_add, pk_mul, z_le, z_nle, z_lt, z_nlt, z_ne, z_m1, pk_sub, xI_ss, xI_sd, xI_n, eq_self, true_and, and_true, and_self, not_true_eq_false, not_false_eq_true, false_implies, true_implies, implies_true, Classical.not_not, forall_const, true_or, or_true, false_or, or_false, false_and, and_false, if_true, if_false, ite_true, ite_false, reduceIte, reduceCtorEq]
    exact ⟨_, rfl, k h (Hx.rf A.1.1) A⟩
/-- the world in which fact f is one more -/
def oth (T : Nat → Nat → Int32) (w f : Nat) : Nat := if fIn (mo T) w f = mo T f then w - mo T f * prd (mo T) f else w + prd (mo T) f
def aWt (T : Nat → Nat → Int32) (r : Nat → Int32) (p f w : Nat) : Bool := decide (¬ dg (wsh T r w) p = dg (wsh T r (oth T w f)) p)
theorem oth_lt {w f : Nat} (hf : f < tn (T 0 0)) (hw : w < wN T) : oth T w f < wN T ∧ (fIn (mo T) w f = mo T f → mo T f * prd (mo T) f ≤ w) := by
  have hp := prd_pos (m := mo T) f
  have e1 := Nat.div_add_mod w (prd (mo T) f)
  have hlow : fIn (mo T) w f * prd (mo T) f ≤ w := by
    have h1 : fIn (mo T) w f ≤ w / prd (mo T) f := Nat.mod_le _ _
    have h2 : fIn (mo T) w f * prd (mo T) f ≤ w / prd (mo T) f * prd (mo T) f := Nat.mul_le_mul_right _ h1
    have h3 := Nat.div_mul_le_self w (prd (mo T) f)
    omega
  refine ⟨?_, fun q => by rw [q] at hlow; exact hlow⟩
  unfold oth
  by_cases q : fIn (mo T) w f = mo T f
  · rw [if_pos q]; omega
  · rw [if_neg q]
    have hle : fIn (mo T) w f ≤ mo T f := fIn_lt
    obtain ⟨k, ek⟩ := prd_dvd (m := mo T) (a := f + 1) (tn (T 0 0) - (f + 1))
    rw [show f + 1 + (tn (T 0 0) - (f + 1)) = tn (T 0 0) by omega, show prd (mo T) (f + 1) = prd (mo T) f * (mo T f + 1) from rfl] at ek
    have ew : wN T = prd (mo T) f * ((mo T f + 1) * k) := by unfold wN; rw [ek, Nat.mul_assoc]
    have hdlt : w / prd (mo T) f < (mo T f + 1) * k := Nat.div_lt_of_lt_mul (by rw [← ew]; exact hw)
    have h4 : w / prd (mo T) f + 1 < (mo T f + 1) * k ∨ w / prd (mo T) f + 1 = (mo T f + 1) * k := by omega
    have h5 : w / prd (mo T) f + 1 < (mo T f + 1) * k := by
      rcases h4 with z | z
      · exact z
      · exfalso
        have h6 : (w / prd (mo T) f) % (mo T f + 1) = mo T f := by
          have h7 : w / prd (mo T) f = (mo T f + 1) * (k - 1) + mo T f := by
            have : 1 ≤ k := by
              rcases Nat.eq_zero_or_pos k with y | y
              · rw [y, Nat.mul_zero] at z; exact absurd z (Nat.succ_ne_zero _)
              · exact y
            obtain ⟨k', rfl⟩ : ∃ k', k = k' + 1 := ⟨k - 1, by omega⟩
            rw [Nat.mul_add, Nat.mul_one] at z
            rw [Nat.add_sub_cancel]
            omega
          rw [h7, Nat.mul_add_mod]
          exact Nat.mod_eq_of_lt (Nat.lt_succ_self _)
        exact q h6
    have h8 : (w / prd (mo T) f + 1 + 1) * prd (mo T) f ≤ wN T := by
      rw [ew, Nat.mul_comm]
      exact Nat.mul_le_mul_left _ h5
    have h9 : w < (w / prd (mo T) f + 1) * prd (mo T) f := by
      rw [Nat.add_mul, Nat.one_mul, Nat.mul_comm]
      have := Nat.mod_lt w hp
      omega
    rw [Nat.add_mul, Nat.one_mul] at h8
    omega
theorem l_cwt {f : Nat} (A : CWn T c r h) (hp : p < 6) (hf : f < tn (T 0 0)) (kk : Q (.int (nI (cnt (aWt T r p f) (wN T)))) h) : ∀ (m w : Nat), w + m = wN T → Ev 116 38 [.ref 43, .int (nI p), .int (nI f), .null, .ref c, .int (nI (mo T f)), .int (nI (prd (mo T) f)), .int (nI (cnt (aWt T r p f) w)), .int (nI w), .null] [] h Q := by
  obtain ⟨-, W2, e6⟩ := A.w
  obtain ⟨l1, l2⟩ := A.len
  have m3 := (mo_n A.1.2.2.2.n hf).2.2
  have hp2 := prd_le (T := T) (f := f) (by omega) A.1.2.2.2.w
  intro m
  induction m with
  | zero =>
    intro w hm
    refine B_116_38 A.1.1 A.1.c2 ?_
    try simp (disch := omega) only [lit, tn_nI, z_inb, nI_add, pk_mul, z_le, z_nle, z_lt, z_nlt, z_ne, z_m1, pk_sub, xI_ss, xI_sd, xI_n, eq_self, true_and, and_true, and_self, not_true_eq_false, not_false_eq_true, false_implies, true_implies, implies_true, Classical.not_not, forall_const, true_or, or_true, false_or, or_false, false_and, and_false, if_true, if_false, ite_true, ite_false, reduceIte, reduceCtorEq, e6]
    rw [show w = wN T by omega]
    exact kk
  | succ m ih =>
    intro w hm
    obtain ⟨ho, hle⟩ := oth_lt hf (show w < wN T by omega)
    have e1 := A.2.2.2.1.2.2 w (by omega)
    have e2 := A.2.2.2.1.2.2 (oth T w f) ho
    have hlt1 := wsh_lt (w := w) A.1.2.2.2 A.2.2.1
    have hlt2 := wsh_lt (w := oth T w f) A.1.2.2.2 A.2.2.1
    have hd1 := dg_le (s := wsh T r w) (p := p)
    have hd2 := dg_le (s := wsh T r (oth T w f)) (p := p)
    have hfi : fIn (mo T) w f ≤ mo T f := fIn_lt
    have nx := ih (w + 1) (by omega)
    have eb : cnt (aWt T r p f) (w + 1) = if aWt T r p f w then cnt (aWt T r p f) w + 1 else cnt (aWt T r p f) w := rfl
    have fin : ∀ v u, v = nI (dg (wsh T r w) p) → u = nI (dg (wsh T r (oth T w f)) p) → (v = u → Ev 116 38 [.ref 43, .int (nI p), .int (nI f), .null, .ref c, .int (nI (mo T f)), .int (nI (prd (mo T) f)), .int (nI (cnt (aWt T r p f) w)), .int (nI (w + 1)), .null] [] h Q) ∧ (¬ v = u → Ev 116 38 [.ref 43, .int (nI p), .int (nI f), .null, .ref c, .int (nI (mo T f)), .int (nI (prd (mo T) f)), .int (nI (cnt (aWt T r p f) w + 1)), .int (nI (w + 1)), .null] [] h Q) := by
      intro v u ev eu
      subst ev
      subst eu
      refine ⟨fun z => ?_, fun z => ?_⟩
      · have z := (nI_eq (by omega) (by omega)).mp z
        rw [eb, if_neg (by unfold aWt; simp [z])] at nx
        exact nx
      · have z : ¬ dg (wsh T r w) p = dg (wsh T r (oth T w f)) p := fun q => z (by rw [q])
        rw [eb, if_pos (by unfold aWt; simp [z])] at nx
        exact nx
    refine B_116_38 A.1.1 A.1.c2 ?_
    try simp (disch := omega) only [lit, tn_nI, z_inb, nI_add, pk_mul, z_le, z_nle, z_lt, z_nlt, z_ne, z_m1, pk_sub, xI_ss, xI_sd, xI_n, eq_self, true_and, and_true, and_self, not_true_eq_false, not_false_eq_true, false_implies, true_implies, implies_true, Classical.not_not, forall_const, true_or, or_true, false_or, or_false, false_and, and_false, if_true, if_false, ite_true, ite_false, reduceIte, reduceCtorEq, e6]
    refine c_fInC A.1 hf (by omega) ⟨A.1.1, ?_⟩
    by_cases q : fIn (mo T) w f = mo T f
    · have eo : oth T w f = w - mo T f * prd (mo T) f := if_pos q
      have hle2 := hle q
      rw [eo] at e2 hlt2 fin ho
      try simp (disch := omega) only [lit, tn_nI, z_inb, nI_add, pk_mul, z_le, z_nle, z_lt, z_nlt, z_ne, z_m1, pk_sub, xI_ss, xI_sd, xI_n, eq_self, true_and, and_true, and_self, not_true_eq_false, not_false_eq_true, false_implies, true_implies, implies_true, Classical.not_not, forall_const, true_or, or_true, false_or, or_false, false_and, and_false, if_true, if_false, ite_true, ite_false, reduceIte, reduceCtorEq, e1]
      refine c_dg A.1.1 (by omega) (by omega) ⟨A.1.1, ?_⟩
      try simp (disch := omega) only [lit, tn_nI, z_inb, nI_add, pk_mul, z_le, z_nle, z_lt, z_nlt, z_ne, z_m1, pk_sub, xI_ss, xI_sd, xI_n, eq_self, true_and, and_true, and_self, not_true_eq_false, not_false_eq_true, false_implies, true_implies, implies_true, Classical.not_not, forall_const, true_or, or_true, false_or, or_false, false_and, and_false, if_true, if_false, ite_true, ite_false, reduceIte, reduceCtorEq, e2]
      refine c_dg A.1.1 (by omega) (by omega) ⟨A.1.1, ?_⟩
      try simp (disch := omega) only [lit, tn_nI, z_inb, nI_add, pk_mul, z_le, z_nle, z_lt, z_nlt, z_ne, z_m1, pk_sub, xI_ss, xI_sd, xI_n, eq_self, true_and, and_true, and_self, not_true_eq_false, not_false_eq_true, false_implies, true_implies, implies_true, Classical.not_not, forall_const, true_or, or_true, false_or, or_false, false_and, and_false, if_true, if_false, ite_true, ite_false, reduceIte, reduceCtorEq]
      exact fin _ _ rfl rfl
    · have eo : oth T w f = w + prd (mo T) f := if_neg q
      rw [eo] at e2 hlt2 fin ho
      try simp (disch := omega) only [lit, tn_nI, z_inb, nI_add, pk_mul, z_le, z_nle, z_lt, z_nlt, z_ne, z_m1, pk_sub, xI_ss, xI_sd, xI_n, eq_self, true_and, and_true, and_self, not_true_eq_false, not_false_eq_true, false_implies, true_implies, implies_true, Classical.not_not, forall_const, true_or, or_true, false_or, or_false, false_and, and_false, if_true, if_false, ite_true, ite_false, reduceIte, reduceCtorEq, e1]
      refine c_dg A.1.1 (by omega) (by omega) ⟨A.1.1, ?_⟩
      try simp (disch := omega) only [lit, tn_nI, z_inb, nI_add, pk_mul, z_le, z_nle, z_lt, z_nlt, z_ne, z_m1, pk_sub, xI_ss, xI_sd, xI_n, eq_self, true_and, and_true, and_self, not_true_eq_false, not_false_eq_true, false_implies, true_implies, implies_true, Classical.not_not, forall_const, true_or, or_true, false_or, or_false, false_and, and_false, if_true, if_false, ite_true, ite_false, reduceIte, reduceCtorEq, e2]
      refine c_dg A.1.1 (by omega) (by omega) ⟨A.1.1, ?_⟩
      try simp (disch := omega) only [lit, tn_nI, z_inb, nI_add, pk_mul, z_le, z_nle, z_lt, z_nlt, z_ne, z_m1, pk_sub, xI_ss, xI_sd, xI_n, eq_self, true_and, and_true, and_self, not_true_eq_false, not_false_eq_true, false_implies, true_implies, implies_true, Classical.not_not, forall_const, true_or, or_true, false_or, or_false, false_and, and_false, if_true, if_false, ite_true, ite_false, reduceIte, reduceCtorEq]
      exact fin _ _ rfl rfl
theorem c_cFact {x : Int32} {K : Int32 → XH → Prop} (M : CM T c h) (k1 : ∀ j, j < tn (T 0 0) → x = nI j → K (nI 1) h) (k0 : (x < 0 ∨ nI (tn (T 0 0)) ≤ x) → K (nI 0) h) : ClI 70 [.ref 4, .int x] h K := by
  have e : xI h (xR h 34 0) 0 = nI (tn (T 0 0)) := by rw [M.2.1, M.t0]; exact M.2.2.2.f
  have f8 := M.f8
  refine B_70_0 M.1 ?_
  rw [e]
  refine in_n (n := tn (T 0 0)) (x := x) (by omega) (fun j hj q => ?_) (fun q => ?_)
  · have k2 := k1 j hj q
    subst q
    exact ⟨fun z => absurd z (nI_pos (by omega)), fun _ => ⟨fun z => absurd z (nI_ge hj (by omega)), fun _ => ⟨_, rfl, k2⟩⟩⟩
  · refine ⟨fun _ => ⟨_, rfl, k0 q⟩, fun z => ⟨fun _ => ⟨_, rfl, k0 q⟩, fun y => ?_⟩⟩
    rcases q with q | q
    · exact absurd q z
    · exact absurd q y
theorem c_cWeight {x y : Int32} {K : Int32 → XH → Prop} (A : CW T c r h) (k : ∀ h1, Hx SW [(43, 4)] h h1 → CW T c r h1 → K (opN x (tn (T 0 1)) (-1) (fun p => opN y (tn (T 0 0)) (-1) (fun f => nI (cnt (aWt T r p f) (wN T))))) h1) : ClI 115 [.ref 4, .int x, .int y] h K := by
  have p6 := A.1.p6
  have f8 := A.1.f8
  refine B_115_0 A.1.1 (c_cPage A.1 (fun p hp e => ⟨A.1.1, ?_⟩) (fun q => ⟨A.1.1, ?_⟩))
  · subst e
    rw [opN_1 hp (by omega)] at k
    try simp (disch := omega) only [lit, tn_nI, z_inb, nI_add, pk_mul, z_le, z_nle, z_lt, z_nlt, z_ne, z_m1, pk_sub, xI_ss, xI_sd, xI_n, eq_self, true_and, and_true, and_self, not_true_eq_false, not_false_eq_true, false_implies, true_implies, implies_true, Classical.not_not, forall_const, true_or, or_true, false_or, or_false, false_and, and_false, if_true, if_false, ite_true, ite_false, reduceIte, reduceCtorEq]
    refine c_cFact A.1 (fun f hf e => ⟨A.1.1, ?_⟩) (fun q => ⟨A.1.1, ?_⟩)
    · subst e
      rw [opN_1 hf (by omega)] at k
      try simp (disch := omega) only [lit, tn_nI, z_inb, nI_add, pk_mul, z_le, z_nle, z_lt, z_nlt, z_ne, z_m1, pk_sub, xI_ss, xI_sd, xI_n, eq_self, true_and, and_true, and_self, not_true_eq_false, not_false_eq_true, false_implies, true_implies, implies_true, Classical.not_not, forall_const, true_or, or_true, false_or, or_false, false_and, and_false, if_true, if_false, ite_true, ite_false, reduceIte, reduceCtorEq]
      refine B_116_0 A.1.1 (A.fill (fun h1 g A1 => ?_))
      have e1 : xI h1 (c + 1) f = nI (mo T f) := by rw [A1.1.t (by decide)]; exact (mo_n A1.1.2.2.2.n hf).1
      have e3 : xI h1 (c + 3) f = nI (prd (mo T) f) := by rw [A1.1.t (by decide)]; exact A1.1.2.2.2.w.2.2 f hf
      have ec := A1.1.2.1
      try simp (disch := omega) only [lit, tn_nI, z_inb, nI_add, pk_mul, z_le, z_nle, z_lt, z_nlt, z_ne, z_m1, pk_sub, xI_ss, xI_sd, xI_n, eq_self, true_and, and_true, and_self, not_true_eq_false, not_false_eq_true, false_implies, true_implies, implies_true, Classical.not_not, forall_const, true_or, or_true, false_or, or_false, false_and, and_false, if_true, if_false, ite_true, ite_false, reduceIte, reduceCtorEq, ec, e1, e3]
      exact l_cwt A1 (by omega) hf ⟨_, rfl, A1.1.1, _, rfl, k h1 g A1.to⟩ (wN T) 0 (by omega)
    · rw [opN_0 q] at k
      try simp (disch := omega) only [lit, tn_nI, z_inb, nI_add, pk_mul, z_le, z_nle, z_lt, z_nlt, z_ne, z_m1, pk_sub, xI_ss, xI_sd, xI_n, eq_self, true_and, and_true, and_self, not_true_eq_false, not_false_eq_true, false_implies, true_implies, implies_true, Classical.not_not, forall_const, true_or, or_true, false_or, or_false, false_and, and_false, if_true, if_false, ite_true, ite_false, reduceIte, reduceCtorEq]
      exact ⟨_, rfl, k h (Hx.rf A.1.1) A⟩
  · rw [opN_0 q] at k
    try simp (disch := omega) only [lit, tn_nI, z_inb, nI_add, pk_mul, z_le, z_nle, z_lt, z_nlt, z_ne, z_m1, pk_sub, xI_ss, xI_sd, xI_n, eq_self, true_and, and_true, and_self, not_true_eq_false, not_false_eq_true, false_implies, true_implies, implies_true, Classical.not_not, forall_const, true_or, or_true, false_or, or_false, false_and, and_false, if_true, if_false, ite_true, ite_false, reduceIte, reduceCtorEq]
    exact ⟨_, rfl, k h (Hx.rf A.1.1) A⟩
end WQ

/-! BEST WORLD, LEAST: spec, and the class -/
def bP (T : Nat → Nat → Int32) (r : Nat → Int32) (w : Nat) : Nat := cnt (fun p => decide (dg (wsh T r w) p = 4)) 6
def uN (T : Nat → Nat → Int32) (r : Nat → Int32) (w : Nat) : Nat := unk T r w (tn (T 0 0))
def bst (T : Nat → Nat → Int32) (r : Nat → Int32) : Nat → Nat → Nat → Nat
  | 0, _, b => b
  | k + 1, w, b => bst T r k (w + 1) (if bP T r b < bP T r w ∨ (bP T r w = bP T r b ∧ uN T r w < uN T r b) then w else b)
def aBest (T : Nat → Nat → Int32) (r : Nat → Int32) (what : Nat) : Int32 := if what = 0 then nI (bst T r (wN T - 1) 1 0) else if what = 1 then nI (bP T r (bst T r (wN T - 1) 1 0)) else nI (uN T r (bst T r (wN T - 1) 1 0))
/-- whether w is better than the best so far -/
def lsB (T : Nat → Nat → Int32) (r : Nat → Int32) (p w : Nat) (b : Option Nat) : Bool := blk T r p w && decide (0 < uN T r w) && (match b with
  | none => true
  | some v => decide (uN T r w < uN T r v))
def lst (T : Nat → Nat → Int32) (r : Nat → Int32) (p : Nat) : Nat → Nat → Option Nat → Option Nat
  | 0, _, b => b
  | k + 1, w, b => lst T r p k (w + 1) (if lsB T r p w b then some w else b)
def aLeast (T : Nat → Nat → Int32) (r : Nat → Int32) (p what : Nat) : Int32 := if r (8 + p) = nI 4 then (if what = 0 then nI 0 else nI (wNow T r)) else match lst T r p (wN T) 0 none with
  | none => -2
  | some v => if what = 0 then nI (uN T r v) else nI v
theorem unk_e {T : Nat → Nat → Int32} {r s : Nat → Int32} {w : Nat} (e : EqR r s) : ∀ n, n ≤ 8 → unk T r w n = unk T s w n := by
  intro n
  induction n with
  | zero => intro _; rfl
  | succ n ih => intro hn; unfold unk; rw [e n (by omega), ih (by omega)]
theorem uN_le {T : Nat → Nat → Int32} {r : Nat → Int32} {w : Nat} (h : tn (T 0 0) ≤ 8) : uN T r w ≤ 8 := Nat.le_trans (unk_le _) h
theorem unk_self {T : Nat → Nat → Int32} {r : Nat → Int32} (ht : tNum T) (hr : rOk T r) : ∀ n, n ≤ tn (T 0 0) → unk T r (wNow T r) n = 0 := by
  intro n
  induction n with
  | zero => intro _; rfl
  | succ n ih =>
    intro hn
    unfold unk
    rw [if_pos, ih (by omega)]
    unfold wNow
    rw [wOf_dig _ n (fun g hg => (hr.f ht hg).2) (by omega)]
    exact (hr.f ht (by omega)).1.symm
section CBs
variable {T : Nat → Nat → Int32} {c : Nat} {h0 h : XH} {r : Nat → Int32} {Q : Value → XH → Prop} {p : Nat}
theorem l_bPc {s : Nat} (hs : Sh h) (hlt : s < 2 ^ 31) (kk : Q (.int (nI (cnt (fun p => decide (dg s p = 4)) 6))) h) : ∀ (m p : Nat), p + m = 6 → Ev 122 25 [.null, .null, .int (nI (cnt (fun p => decide (dg s p = 4)) p)), .int (nI (s / 5 ^ p)), .int (nI p)] [] h Q := by
  intro m
  induction m with
  | zero =>
    intro p hm
    refine B_122_25 hs ?_
    try simp (disch := omega) only [lit, tn_nI, z_inb, nI_add, pk_mul, z_le, z_nle, z_lt, z_nlt, z_ne, z_m1, pk_sub, xI_ss, xI_sd, xI_n, eq_self, true_and, and_true, and_self, not_true_eq_false, not_false_eq_true, false_implies, true_implies, implies_true, Classical.not_not, forall_const, true_or, or_true, false_or, or_false, false_and, and_false, if_true, if_false, ite_true, ite_false, reduceIte, reduceCtorEq]
    rw [show p = 6 by omega]
    exact kk
  | succ m ih =>
    intro p hm
    have hle : s / 5 ^ p ≤ s := Nat.div_le_self _ _
    have nx := ih (p + 1) (by omega)
    have hc := cnt_le (f := fun p => decide (dg s p = 4)) p
    have eb : cnt (fun p => decide (dg s p = 4)) (p + 1) = if decide (dg s p = 4) then cnt (fun p => decide (dg s p = 4)) p + 1 else cnt (fun p => decide (dg s p = 4)) p := rfl
    have e5 : s / 5 ^ (p + 1) = s / 5 ^ p / 5 := by rw [Nat.pow_succ, Nat.div_div_eq_div_mul]
    rw [e5] at nx
    refine B_122_25 hs ?_
    try simp (disch := omega) only [lit, tn_nI, z_inb, nI_add, pk_mul, z_le, z_nle, z_lt, z_nlt, z_ne, z_m1, pk_sub, xI_ss, xI_sd, xI_n, eq_self, true_and, and_true, and_self, not_true_eq_false, not_false_eq_true, false_implies, true_implies, implies_true, Classical.not_not, forall_const, true_or, or_true, false_or, or_false, false_and, and_false, if_true, if_false, ite_true, ite_false, reduceIte, reduceCtorEq, pk_div, z_rem]
    by_cases q : dg s p = 4
    · rw [eb, if_pos (decide_eq_true q)] at nx
      have q' : s / 5 ^ p % 5 = 4 := q
      have q2 : s / 5 ^ p - s / 5 ^ p / 5 * 5 = 4 := by omega
      rw [q2]
      try simp (disch := omega) only [lit, tn_nI, z_inb, nI_add, pk_mul, z_le, z_nle, z_lt, z_nlt, z_ne, z_m1, pk_sub, xI_ss, xI_sd, xI_n, eq_self, true_and, and_true, and_self, not_true_eq_false, not_false_eq_true, false_implies, true_implies, implies_true, Classical.not_not, forall_const, true_or, or_true, false_or, or_false, false_and, and_false, if_true, if_false, ite_true, ite_false, reduceIte, reduceCtorEq]
      exact nx
    · rw [eb, if_neg (by rw [decide_eq_false q]; decide)] at nx
      have q' : ¬ s / 5 ^ p % 5 = 4 := q
      have hm5 : s / 5 ^ p % 5 < 5 := Nat.mod_lt _ (by decide)
      try simp (disch := omega) only [lit, tn_nI, z_inb, nI_add, pk_mul, z_le, z_nle, z_lt, z_nlt, z_ne, z_m1, pk_sub, xI_ss, xI_sd, xI_n, eq_self, true_and, and_true, and_self, not_true_eq_false, not_false_eq_true, false_implies, true_implies, implies_true, Classical.not_not, forall_const, true_or, or_true, false_or, or_false, false_and, and_false, if_true, if_false, ite_true, ite_false, reduceIte, reduceCtorEq]
      exact nx
theorem c_bPc {w : Nat} {K : Int32 → XH → Prop} (A : CWn T c r h) (hw : w < wN T) (k : K (nI (bP T r w)) h) : ClI 122 [.ref 43, .int (nI w)] h K := by
  obtain ⟨l1, l2⟩ := A.len
  have e := A.2.2.2.1.2.2 w hw
  have hlt := wsh_lt (w := w) A.1.2.2.2 A.2.2.1
  have e2 : Int32.ofNat (xN h (xR h 43 4)) = nI (xN h (xR h 43 4)) := rfl
  refine B_122_0 A.1.1 ?_
  rw [e2]
  try simp (disch := omega) only [lit, tn_nI, z_inb, nI_add, pk_mul, z_le, z_nle, z_lt, z_nlt, z_ne, z_m1, pk_sub, xI_ss, xI_sd, xI_n, eq_self, true_and, and_true, and_self, not_true_eq_false, not_false_eq_true, false_implies, true_implies, implies_true, Classical.not_not, forall_const, true_or, or_true, false_or, or_false, false_and, and_false, if_true, if_false, ite_true, ite_false, reduceIte, reduceCtorEq, e]
  have := l_bPc (Q := fun r h1 => ∃ v, r = .int v ∧ K v h1) A.1.1 (show wsh T r w < 2 ^ 31 by omega) ⟨_, rfl, k⟩ 6 0 (by decide)
  rw [Nat.pow_zero, Nat.div_one] at this
  exact this
theorem bP_le {w : Nat} : bP T r w ≤ 6 := cnt_le 6
theorem c_uNc {w : Nat} {K : Int32 → XH → Prop} (M : CM T c h) (hr : EqR (xI h 39) r) (hw : w < 2 ^ 31) (k : K (nI (uN T r w)) h) : ClI 102 [.ref c, .int (nI w), .ref 39] h K := by
  refine c_unC M (ar_39 M.1) hw ?_
  rw [unk_e hr _ M.f8]
  exact k
theorem l_cbest (A : CWn T c r h) (kk : Q (.int (nI (bst T r (wN T - 1) 1 0))) h) : ∀ (k w b : Nat), w + k = wN T → b < wN T → 1 ≤ w → bst T r (wN T - 1) 1 0 = bst T r k w b → Ev 121 24 [.ref 43, .ref 39, .ref c, .int (nI b), .int (nI (bP T r b)), .int (nI (uN T r b)), .int (nI w), .null, .null] [] h Q := by
  obtain ⟨-, W2, e6⟩ := A.w
  intro k
  induction k with
  | zero =>
    intro w b hk hb _ e
    refine B_121_24 A.1.1 A.1.c2 ?_
    try simp (disch := omega) only [lit, tn_nI, z_inb, nI_add, pk_mul, z_le, z_nle, z_lt, z_nlt, z_ne, z_m1, pk_sub, xI_ss, xI_sd, xI_n, eq_self, true_and, and_true, and_self, not_true_eq_false, not_false_eq_true, false_implies, true_implies, implies_true, Classical.not_not, forall_const, true_or, or_true, false_or, or_false, false_and, and_false, if_true, if_false, ite_true, ite_false, reduceIte, reduceCtorEq, e6]
    rw [e] at kk
    exact kk
  | succ k ih =>
    intro w b hk hb h1 e
    have b1 := bP_le (T := T) (r := r) (w := w)
    have b2 := bP_le (T := T) (r := r) (w := b)
    have u1 := uN_le (r := r) (w := w) A.1.f8
    have u2 := uN_le (r := r) (w := b) A.1.f8
    have e : bst T r (wN T - 1) 1 0 = bst T r k (w + 1) (if bP T r b < bP T r w ∨ (bP T r w = bP T r b ∧ uN T r w < uN T r b) then w else b) := e
    refine B_121_24 A.1.1 A.1.c2 ?_
    try simp (disch := omega) only [lit, tn_nI, z_inb, nI_add, pk_mul, z_le, z_nle, z_lt, z_nlt, z_ne, z_m1, pk_sub, xI_ss, xI_sd, xI_n, eq_self, true_and, and_true, and_self, not_true_eq_false, not_false_eq_true, false_implies, true_implies, implies_true, Classical.not_not, forall_const, true_or, or_true, false_or, or_false, false_and, and_false, if_true, if_false, ite_true, ite_false, reduceIte, reduceCtorEq, e6]
    refine c_bPc A (by omega) ⟨A.1.1, ?_⟩
    rcases Nat.lt_trichotomy (bP T r w) (bP T r b) with q | q | q
    · rw [if_neg (by omega)] at e
      try simp (disch := omega) only [lit, tn_nI, z_inb, nI_add, pk_mul, z_le, z_nle, z_lt, z_nlt, z_ne, z_m1, pk_sub, xI_ss, xI_sd, xI_n, eq_self, true_and, and_true, and_self, not_true_eq_false, not_false_eq_true, false_implies, true_implies, implies_true, Classical.not_not, forall_const, true_or, or_true, false_or, or_false, false_and, and_false, if_true, if_false, ite_true, ite_false, reduceIte, reduceCtorEq]
      exact ih (w + 1) b (by omega) hb (by omega) e
    · rw [q]
      try simp (disch := omega) only [lit, tn_nI, z_inb, nI_add, pk_mul, z_le, z_nle, z_lt, z_nlt, z_ne, z_m1, pk_sub, xI_ss, xI_sd, xI_n, eq_self, true_and, and_true, and_self, not_true_eq_false, not_false_eq_true, false_implies, true_implies, implies_true, Classical.not_not, forall_const, true_or, or_true, false_or, or_false, false_and, and_false, if_true, if_false, ite_true, ite_false, reduceIte, reduceCtorEq]
      refine c_uNc A.1 A.2.1 (by omega) ⟨A.1.1, ?_⟩
      by_cases z : uN T r w < uN T r b
      · rw [if_pos (Or.inr ⟨q, z⟩)] at e
        try simp (disch := omega) only [lit, tn_nI, z_inb, nI_add, pk_mul, z_le, z_nle, z_lt, z_nlt, z_ne, z_m1, pk_sub, xI_ss, xI_sd, xI_n, eq_self, true_and, and_true, and_self, not_true_eq_false, not_false_eq_true, false_implies, true_implies, implies_true, Classical.not_not, forall_const, true_or, or_true, false_or, or_false, false_and, and_false, if_true, if_false, ite_true, ite_false, reduceIte, reduceCtorEq]
        have := ih (w + 1) w (by omega) (by omega) (by omega) e
        rw [q] at this
        exact this
      · rw [if_neg (by omega)] at e
        try simp (disch := omega) only [lit, tn_nI, z_inb, nI_add, pk_mul, z_le, z_nle, z_lt, z_nlt, z_ne, z_m1, pk_sub, xI_ss, xI_sd, xI_n, eq_self, true_and, and_true, and_self, not_true_eq_false, not_false_eq_true, false_implies, true_implies, implies_true, Classical.not_not, forall_const, true_or, or_true, false_or, or_false, false_and, and_false, if_true, if_false, ite_true, ite_false, reduceIte, reduceCtorEq]
        exact ih (w + 1) b (by omega) hb (by omega) e
    · rw [if_pos (Or.inl q)] at e
      try simp (disch := omega) only [lit, tn_nI, z_inb, nI_add, pk_mul, z_le, z_nle, z_lt, z_nlt, z_ne, z_m1, pk_sub, xI_ss, xI_sd, xI_n, eq_self, true_and, and_true, and_self, not_true_eq_false, not_false_eq_true, false_implies, true_implies, implies_true, Classical.not_not, forall_const, true_or, or_true, false_or, or_false, false_and, and_false, if_true, if_false, ite_true, ite_false, reduceIte, reduceCtorEq]
      refine c_uNc A.1 A.2.1 (by omega) ⟨A.1.1, ?_⟩
      exact ih (w + 1) w (by omega) (by omega) (by omega) e
theorem bst_lt : ∀ (k w b : Nat), b < wN T → w + k ≤ wN T → bst T r k w b < wN T := by
  intro k
  induction k with
  | zero => intro w b hb _; exact hb
  | succ k ih =>
    intro w b hb hw
    refine ih (w + 1) _ ?_ (by omega)
    split <;> omega
theorem c_bestOf {K : Int32 → XH → Prop} (A : CW T c r h) (k : ∀ h1, Hx SW [(43, 4)] h h1 → CWn T c r h1 → K (nI (bst T r (wN T - 1) 1 0)) h1) : ClI 121 [.ref 43, .ref 39] h K := by
  refine B_121_0 A.1.1 (A.fill (fun h1 f A1 => ?_))
  obtain ⟨-, W2, e6⟩ := A1.w
  have hw := wN_pos (T := T)
  have b1 := bP_le (T := T) (r := r) (w := 0)
  have ec := A1.1.2.1
  rw [ec]
  refine B_121_24 A1.1.1 A1.1.c2 ?_
  rw [e6]
  have hm : (-1 : Int32) ≤ nI (bP T r 0) := Int32.le_trans (by decide) (nI_pos' (by omega))
  have hl : (-1 : Int32) < nI (bP T r 0) := Int32.lt_of_lt_of_le (by decide) (nI_pos' (by omega))
  refine ⟨fun z => absurd z (nI_ge (a := 0) (b := wN T) (by omega) (by omega)), fun _ => ?_⟩
  refine c_bPc (w := 0) A1 hw ⟨A1.1.1, fun _ => ?_, fun z => absurd hm z⟩
  refine c_uNc (w := 0) A1.1 A1.2.1 (by decide) ⟨A1.1.1, fun _ => ?_, fun z => absurd hl z⟩
  exact l_cbest A1 ⟨_, rfl, k h1 f A1⟩ (wN T - 1) 1 0 (by omega) hw (by omega) rfl
theorem c_cBest {x : Int32} {K : Int32 → XH → Prop} (A : CW T c r h) (k : ∀ h1, Hx SW [(43, 4)] h h1 → CW T c r h1 → K (opN x 3 (-1) (fun w => aBest T r w)) h1) : ClI 120 [.ref 4, .int x] h K := by
  refine in_n (n := 3) (x := x) (by decide) (fun j hj e => ?_) (fun q => ?_)
  · subst e
    rw [opN_1 hj (by omega)] at k
    refine B_120_0 A.1.1 ?_
    try simp (disch := omega) only [lit, tn_nI, z_inb, nI_add, pk_mul, z_le, z_nle, z_lt, z_nlt, z_ne, z_m1, pk_sub, xI_ss, xI_sd, xI_n, eq_self, true_and, and_true, and_self, not_true_eq_false, not_false_eq_true, false_implies, true_implies, implies_true, Classical.not_not, forall_const, true_or, or_true, false_or, or_false, false_and, and_false, if_true, if_false, ite_true, ite_false, reduceIte, reduceCtorEq]
    refine c_bestOf A (fun h1 f A1 => ⟨A1.1.1, ?_⟩)
    have k1 := k h1 f A1.to
    have W2 := A1.w.2.1
    have hb := bst_lt (T := T) (r := r) (wN T - 1) 1 0 wN_pos (by have := wN_pos (T := T); omega)
    have ec := A1.1.2.1
    unfold aBest at k1
    rcases (show j = 0 ∨ j = 1 ∨ j = 2 by omega) with z | z | z
    · subst z
      try simp (disch := omega) only [lit, tn_nI, z_inb, nI_add, pk_mul, z_le, z_nle, z_lt, z_nlt, z_ne, z_m1, pk_sub, xI_ss, xI_sd, xI_n, eq_self, true_and, and_true, and_self, not_true_eq_false, not_false_eq_true, false_implies, true_implies, implies_true, Classical.not_not, forall_const, true_or, or_true, false_or, or_false, false_and, and_false, if_true, if_false, ite_true, ite_false, reduceIte, reduceCtorEq]
      exact ⟨_, rfl, k1⟩
    · subst z
      try simp (disch := omega) only [lit, tn_nI, z_inb, nI_add, pk_mul, z_le, z_nle, z_lt, z_nlt, z_ne, z_m1, pk_sub, xI_ss, xI_sd, xI_n, eq_self, true_and, and_true, and_self, not_true_eq_false, not_false_eq_true, false_implies, true_implies, implies_true, Classical.not_not, forall_const, true_or, or_true, false_or, or_false, false_and, and_false, if_true, if_false, ite_true, ite_false, reduceIte, reduceCtorEq]
      exact c_bPc A1 hb ⟨A1.1.1, _, rfl, k1⟩
    · subst z
      try simp (disch := omega) only [lit, tn_nI, z_inb, nI_add, pk_mul, z_le, z_nle, z_lt, z_nlt, z_ne, z_m1, pk_sub, xI_ss, xI_sd, xI_n, eq_self, true_and, and_true, and_self, not_true_eq_false, not_false_eq_true, false_implies, true_implies, implies_true, Classical.not_not, forall_const, true_or, or_true, false_or, or_false, false_and, and_false, if_true, if_false, ite_true, ite_false, reduceIte, reduceCtorEq, ec]
      exact c_uNc A1.1 A1.2.1 (by omega) ⟨A1.1.1, _, rfl, k1⟩
  · rw [opN_0 q] at k
    have k1 := k h (Hx.rf A.1.1) A
    refine B_120_0 A.1.1 ⟨fun _ => ⟨_, rfl, k1⟩, fun z => ⟨fun y => ?_, fun _ => ⟨_, rfl, k1⟩⟩⟩
    rcases q with q | q
    · exact absurd q z
    · exact absurd (Int32.le_trans q y) (by decide)
/-- the best so far, and how many facts, as the class has them -/
def lsW (b : Option Nat) : Int32 := match b with
  | none => -2
  | some v => nI v
def lsF (T : Nat → Nat → Int32) (r : Nat → Int32) (b : Option Nat) : Nat := match b with
  | none => 9
  | some v => uN T r v
theorem l_cleast (A : CWn T c r h) (hp : p < 6) (kk : Q (.int (lsW (lst T r p (wN T) 0 none))) h) : ∀ (k w : Nat) (b : Option Nat), w + k = wN T → lst T r p (wN T) 0 none = lst T r p k w b → Ev 99 40 [.ref 43, .int (nI p), .ref 39, .ref c, .int (lsW b), .int (nI (lsF T r b)), .int (nI w), .null] [] h Q := by
  obtain ⟨-, W2, e6⟩ := A.w
  obtain ⟨l1, l2⟩ := A.len
  intro k
  induction k with
  | zero =>
    intro w b hk e
    refine B_99_40 A.1.1 A.1.c2 ?_
    try simp (disch := omega) only [lit, tn_nI, z_inb, nI_add, pk_mul, z_le, z_nle, z_lt, z_nlt, z_ne, z_m1, pk_sub, xI_ss, xI_sd, xI_n, eq_self, true_and, and_true, and_self, not_true_eq_false, not_false_eq_true, false_implies, true_implies, implies_true, Classical.not_not, forall_const, true_or, or_true, false_or, or_false, false_and, and_false, if_true, if_false, ite_true, ite_false, reduceIte, reduceCtorEq, e6]
    rw [e] at kk
    exact kk
  | succ k ih =>
    intro w b hk e
    have e1 := A.2.2.2.1.2.2 w (by omega)
    have hlt := wsh_lt (w := w) A.1.2.2.2 A.2.2.1
    have hd := dg_le (s := wsh T r w) (p := p)
    have u1 := uN_le (r := r) (w := w) A.1.f8
    have uF : lsF T r b ≤ 9 := by
      cases b with
      | none => exact Nat.le_refl _
      | some v => exact Nat.le_succ_of_le (uN_le A.1.f8)
    have e : lst T r p (wN T) 0 none = lst T r p k (w + 1) (if lsB T r p w b then some w else b) := e
    have hcond : (lsB T r p w b = true) ↔ (blk T r p w = true ∧ 0 < uN T r w ∧ uN T r w < lsF T r b) := by
      unfold lsB lsF
      cases b with
      | none =>
        simp
        omega
      | some v => simp [and_assoc]
    refine B_99_40 A.1.1 A.1.c2 ?_
    try simp (disch := omega) only [lit, tn_nI, z_inb, nI_add, pk_mul, z_le, z_nle, z_lt, z_nlt, z_ne, z_m1, pk_sub, xI_ss, xI_sd, xI_n, eq_self, true_and, and_true, and_self, not_true_eq_false, not_false_eq_true, false_implies, true_implies, implies_true, Classical.not_not, forall_const, true_or, or_true, false_or, or_false, false_and, and_false, if_true, if_false, ite_true, ite_false, reduceIte, reduceCtorEq, e6, e1]
    refine c_dg A.1.1 (by omega) (by omega) ⟨A.1.1, ?_⟩
    by_cases q : dg (wsh T r w) p = 4
    · have hb : blk T r p w = true := decide_eq_true q
      rw [q]
      try simp (disch := omega) only [lit, tn_nI, z_inb, nI_add, pk_mul, z_le, z_nle, z_lt, z_nlt, z_ne, z_m1, pk_sub, xI_ss, xI_sd, xI_n, eq_self, true_and, and_true, and_self, not_true_eq_false, not_false_eq_true, false_implies, true_implies, implies_true, Classical.not_not, forall_const, true_or, or_true, false_or, or_false, false_and, and_false, if_true, if_false, ite_true, ite_false, reduceIte, reduceCtorEq]
      refine c_uNc A.1 A.2.1 (by omega) ⟨A.1.1, ?_⟩
      by_cases z0 : uN T r w = 0
      · rw [if_neg (by rw [hcond]; omega)] at e
        rw [z0]
        try simp (disch := omega) only [lit, tn_nI, z_inb, nI_add, pk_mul, z_le, z_nle, z_lt, z_nlt, z_ne, z_m1, pk_sub, xI_ss, xI_sd, xI_n, eq_self, true_and, and_true, and_self, not_true_eq_false, not_false_eq_true, false_implies, true_implies, implies_true, Classical.not_not, forall_const, true_or, or_true, false_or, or_false, false_and, and_false, if_true, if_false, ite_true, ite_false, reduceIte, reduceCtorEq]
        exact ih (w + 1) b (by omega) e
      · by_cases z : uN T r w < lsF T r b
        · rw [if_pos (hcond.mpr ⟨hb, by omega, z⟩)] at e
          try simp (disch := omega) only [lit, tn_nI, z_inb, nI_add, pk_mul, z_le, z_nle, z_lt, z_nlt, z_ne, z_m1, pk_sub, xI_ss, xI_sd, xI_n, eq_self, true_and, and_true, and_self, not_true_eq_false, not_false_eq_true, false_implies, true_implies, implies_true, Classical.not_not, forall_const, true_or, or_true, false_or, or_false, false_and, and_false, if_true, if_false, ite_true, ite_false, reduceIte, reduceCtorEq]
          exact ih (w + 1) (some w) (by omega) e
        · rw [if_neg (by rw [hcond]; omega)] at e
          try simp (disch := omega) only [lit, tn_nI, z_inb, nI_add, pk_mul, z_le, z_nle, z_lt, z_nlt, z_ne, z_m1, pk_sub, xI_ss, xI_sd, xI_n, eq_self, true_and, and_true, and_self, not_true_eq_false, not_false_eq_true, false_implies, true_implies, implies_true, Classical.not_not, forall_const, true_or, or_true, false_or, or_false, false_and, and_false, if_true, if_false, ite_true, ite_false, reduceIte, reduceCtorEq]
          exact ih (w + 1) b (by omega) e
    · have hb : ¬ blk T r p w = true := fun z => q (of_decide_eq_true z)
      rw [if_neg (by rw [hcond]; exact fun z => hb z.1)] at e
      try simp (disch := omega) only [lit, tn_nI, z_inb, nI_add, pk_mul, z_le, z_nle, z_lt, z_nlt, z_ne, z_m1, pk_sub, xI_ss, xI_sd, xI_n, eq_self, true_and, and_true, and_self, not_true_eq_false, not_false_eq_true, false_implies, true_implies, implies_true, Classical.not_not, forall_const, true_or, or_true, false_or, or_false, false_and, and_false, if_true, if_false, ite_true, ite_false, reduceIte, reduceCtorEq]
      exact ih (w + 1) b (by omega) e
theorem lst_lt : ∀ (k w : Nat) (b : Option Nat), (∀ v, b = some v → v < wN T) → w + k ≤ wN T → ∀ v, lst T r p k w b = some v → v < wN T := by
  intro k
  induction k with
  | zero => intro w b hb _ v e; exact hb v e
  | succ k ih =>
    intro w b hb hw v e
    refine ih (w + 1) _ (fun u hu => ?_) (by omega) v e
    split at hu
    · cases hu; omega
    · exact hb u hu
theorem c_cLeast {x y : Int32} {K : Int32 → XH → Prop} (A : CW T c r h) (k : ∀ h1, Hx SW [(43, 4)] h h1 → CW T c r h1 → K (opN x (tn (T 0 1)) (-1) (fun p => opN y 2 (-1) (fun w => aLeast T r p w))) h1) : ClI 97 [.ref 4, .int x, .int y] h K := by
  have p6 := A.1.p6
  refine B_97_0 A.1.1 (c_cPage A.1 (fun p hp e => ⟨A.1.1, ?_⟩) (fun q => ⟨A.1.1, ?_⟩))
  · subst e
    rw [opN_1 hp (by omega)] at k
    try simp (disch := omega) only [lit, tn_nI, z_inb, nI_add, pk_mul, z_le, z_nle, z_lt, z_nlt, z_ne, z_m1, pk_sub, xI_ss, xI_sd, xI_n, eq_self, true_and, and_true, and_self, not_true_eq_false, not_false_eq_true, false_implies, true_implies, implies_true, Classical.not_not, forall_const, true_or, or_true, false_or, or_false, false_and, and_false, if_true, if_false, ite_true, ite_false, reduceIte, reduceCtorEq]
    refine c_oneTwo A.1.1 (fun j hj e => ⟨A.1.1, ?_⟩) (fun q => ⟨A.1.1, ?_⟩)
    · subst e
      rw [opN_1 hj (by omega)] at k
      unfold aLeast at k
      try simp (disch := omega) only [lit, tn_nI, z_inb, nI_add, pk_mul, z_le, z_nle, z_lt, z_nlt, z_ne, z_m1, pk_sub, xI_ss, xI_sd, xI_n, eq_self, true_and, and_true, and_self, not_true_eq_false, not_false_eq_true, false_implies, true_implies, implies_true, Classical.not_not, forall_const, true_or, or_true, false_or, or_false, false_and, and_false, if_true, if_false, ite_true, ite_false, reduceIte, reduceCtorEq]
      have e39 : xI h 39 (8 + p) = r (8 + p) := A.2.1 (8 + p) (by omega)
      have ec := A.1.2.1
      refine B_99_0 A.1.1 ?_
      try simp (disch := omega) only [lit, tn_nI, z_inb, nI_add, pk_mul, z_le, z_nle, z_lt, z_nlt, z_ne, z_m1, pk_sub, xI_ss, xI_sd, xI_n, eq_self, true_and, and_true, and_self, not_true_eq_false, not_false_eq_true, false_implies, true_implies, implies_true, Classical.not_not, forall_const, true_or, or_true, false_or, or_false, false_and, and_false, if_true, if_false, ite_true, ite_false, reduceIte, reduceCtorEq, e39, ec]
      refine ⟨fun z => ?_, fun z => ?_⟩
      · rw [if_neg z] at k
        refine A.fill (fun h1 f A1 => ?_)
        have W2 := A1.w.2.1
        refine l_cleast A1 (by omega) ⟨_, rfl, A1.1.1, ?_⟩ (wN T) 0 none (by omega) rfl
        have k1 := k h1 f A1.to
        have ec1 := A1.1.2.1
        cases hl : lst T r p (wN T) 0 none with
        | none =>
          rw [hl] at k1
          exact ⟨fun _ => ⟨_, rfl, k1⟩, fun z => absurd (by decide) z⟩
        | some v =>
          rw [hl] at k1
          have hv := lst_lt (T := T) (r := r) (p := p) (wN T) 0 none (fun v e => by cases e) (by omega) v hl
          have ew : lsW (some v) = nI v := rfl
          rw [ew]
          rcases (show j = 0 ∨ j = 1 by omega) with y | y
          · subst y
            try simp (disch := omega) only [lit, tn_nI, z_inb, nI_add, pk_mul, z_le, z_nle, z_lt, z_nlt, z_ne, z_m1, pk_sub, xI_ss, xI_sd, xI_n, eq_self, true_and, and_true, and_self, not_true_eq_false, not_false_eq_true, false_implies, true_implies, implies_true, Classical.not_not, forall_const, true_or, or_true, false_or, or_false, false_and, and_false, if_true, if_false, ite_true, ite_false, reduceIte, reduceCtorEq, ec1]
            exact c_uNc A1.1 A1.2.1 (by omega) ⟨A1.1.1, _, rfl, k1⟩
          · subst y
            try simp (disch := omega) only [lit, tn_nI, z_inb, nI_add, pk_mul, z_le, z_nle, z_lt, z_nlt, z_ne, z_m1, pk_sub, xI_ss, xI_sd, xI_n, eq_self, true_and, and_true, and_self, not_true_eq_false, not_false_eq_true, false_implies, true_implies, implies_true, Classical.not_not, forall_const, true_or, or_true, false_or, or_false, false_and, and_false, if_true, if_false, ite_true, ite_false, reduceIte, reduceCtorEq]
            exact ⟨_, rfl, k1⟩
      · rw [if_pos z] at k
        have hlt := wNow_lt A.1.2.2.2.n A.2.2.1
        have W2 : wN T ≤ 2000 := A.1.2.2.2.w.1
        have k1 := k h (Hx.rf A.1.1) A
        refine c_wC A.1 (ar_39 A.1.1) A.2.1 A.2.2.1 ⟨A.1.1, _, rfl, A.1.1, ?_⟩
        rcases (show j = 0 ∨ j = 1 by omega) with y | y
        · subst y
          try simp (disch := omega) only [lit, tn_nI, z_inb, nI_add, pk_mul, z_le, z_nle, z_lt, z_nlt, z_ne, z_m1, pk_sub, xI_ss, xI_sd, xI_n, eq_self, true_and, and_true, and_self, not_true_eq_false, not_false_eq_true, false_implies, true_implies, implies_true, Classical.not_not, forall_const, true_or, or_true, false_or, or_false, false_and, and_false, if_true, if_false, ite_true, ite_false, reduceIte, reduceCtorEq, ec]
          refine c_uNc A.1 A.2.1 (by omega) ⟨A.1.1, _, rfl, ?_⟩
          unfold uN
          rw [unk_self A.1.2.2.2.n A.2.2.1 _ (Nat.le_refl _)]
          exact k1
        · subst y
          try simp (disch := omega) only [lit, tn_nI, z_inb, nI_add, pk_mul, z_le, z_nle, z_lt, z_nlt, z_ne, z_m1, pk_sub, xI_ss, xI_sd, xI_n, eq_self, true_and, and_true, and_self, not_true_eq_false, not_false_eq_true, false_implies, true_implies, implies_true, Classical.not_not, forall_const, true_or, or_true, false_or, or_false, false_and, and_false, if_true, if_false, ite_true, ite_false, reduceIte, reduceCtorEq]
          exact ⟨_, rfl, k1⟩
    · rw [opN_0 q] at k
      try simp (disch := omega) only [lit, tn_nI, z_inb, nI_add, pk_mul, z_le, z_nle, z_lt, z_nlt, z_ne, z_m1, pk_sub, xI_ss, xI_sd, xI_n, eq_self, true_and, and_true, and_self, not_true_eq_false, not_false_eq_true, false_implies, true_implies, implies_true, Classical.not_not, forall_const, true_or, or_true, false_or, or_false, false_and, and_false, if_true, if_false, ite_true, ite_false, reduceIte, reduceCtorEq]
      exact ⟨_, rfl, k h (Hx.rf A.1.1) A⟩
  · rw [opN_0 q] at k
    try simp (disch := omega) only [lit, tn_nI, z_inb, nI_add, pk_mul, z_le, z_nle, z_lt, z_nlt, z_ne, z_m1, pk_sub, xI_ss, xI_sd, xI_n, eq_self, true_and, and_true, and_self, not_true_eq_false, not_false_eq_true, false_implies, true_implies, implies_true, Classical.not_not, forall_const, true_or, or_true, false_or, or_false, false_and, and_false, if_true, if_false, ite_true, ite_false, reduceIte, reduceCtorEq]
    exact ⟨_, rfl, k h (Hx.rf A.1.1) A⟩
end CBs

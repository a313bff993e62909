/-! BEST WORLD, LEAST: the reference -/
section RBs
variable {T : Nat → Nat → Int32} {l : Nat} {r : Nat → Int32} {h0 h : XH} {Q : Value → XH → Prop} {p : Nat}
theorem l_uNr {w : Nat} (M : RM T l h) (hr : rq (xI h 108) r) (hw : w < 2 ^ 31) (kk : Q (.int (nI (uN T r w))) h) : ∀ (m f : Nat), f + m = tn (T 0 0) → Ev 235 4 [.ref 69, .int (nI w), .int (nI (unk T r w f)), .int (nI f)] [] h Q := by
  have e1 := M.nf
  have e18 := M.2.1
  have l2 := M.l2
  have f8 := M.f8
  intro m
  induction m with
  | zero =>
    intro f hm
    refine B_235_4 M.1 ?_
    try simp (disch := omega) only [lit, tn_nI, z_inb, nI_add, pk_mul, z_le, z_nle, z_lt, z_nlt, z_ne, z_m1, pk_sub, xI_ss, xI_sd, xI_n, eq_self, true_and, and_true, and_self, not_true_eq_false, not_false_eq_true, false_implies, true_implies, implies_true, Classical.not_not, forall_const, true_or, or_true, false_or, or_false, false_and, and_false, if_true, if_false, ite_true, ite_false, reduceIte, reduceCtorEq, e18, e1]
    rw [show f = tn (T 0 0) by omega]
    exact kk
  | succ m ih =>
    intro f hm
    have e2 : xI h 108 f = r f := by rw [hr f (by omega), sw_n (by omega)]
    have nx := ih (f + 1) (by omega)
    have eu : unk T r w (f + 1) = if nI (fIn (mo T) w f) = r f then unk T r w f else unk T r w f + 1 := rfl
    refine B_235_4 M.1 ?_
    try simp (disch := omega) only [lit, tn_nI, z_inb, nI_add, pk_mul, z_le, z_nle, z_lt, z_nlt, z_ne, z_m1, pk_sub, xI_ss, xI_sd, xI_n, eq_self, true_and, and_true, and_self, not_true_eq_false, not_false_eq_true, false_implies, true_implies, implies_true, Classical.not_not, forall_const, true_or, or_true, false_or, or_false, false_and, and_false, if_true, if_false, ite_true, ite_false, reduceIte, reduceCtorEq, e18, e1]
    refine c_fIn M (by omega) hw ⟨M.1, ?_⟩
    try simp (disch := omega) only [lit, tn_nI, z_inb, nI_add, pk_mul, z_le, z_nle, z_lt, z_nlt, z_ne, z_m1, pk_sub, xI_ss, xI_sd, xI_n, eq_self, true_and, and_true, and_self, not_true_eq_false, not_false_eq_true, false_implies, true_implies, implies_true, Classical.not_not, forall_const, true_or, or_true, false_or, or_false, false_and, and_false, if_true, if_false, ite_true, ite_false, reduceIte, reduceCtorEq, e2]
    refine ⟨fun z => ?_, fun z => ?_⟩
    · rw [eu, if_pos z] at nx; exact nx
    · rw [eu, if_neg z] at nx; exact nx
theorem c_uNr {w : Nat} {K : Int32 → XH → Prop} (M : RM T l h) (hr : rq (xI h 108) r) (hw : w < 2 ^ 31) (k : K (nI (uN T r w)) h) : ClI 235 [.ref 69, .int (nI w)] h K :=
  B_235_0 M.1 (l_uNr M hr hw ⟨_, rfl, k⟩ (tn (T 0 0)) 0 (by omega))
theorem dg0 {s : Nat → Int32} (hs : rSh T s) {q : Nat} (hq : q < 6) (h : tn (T 0 1) ≤ q) : dg (num (rdg s) 6) q = 0 := by
  unfold dg
  rw [num_dig 6 q (fun i hi => (rdg_n hs hi).1) hq]
  unfold rdg
  rw [hs.2 q hq h]
  rfl
theorem cnt_more {f : Nat → Bool} {n : Nat} : ∀ k, (∀ i, n ≤ i → i < n + k → f i = false) → cnt f (n + k) = cnt f n := by
  intro k
  induction k with
  | zero => intro _; rfl
  | succ k ih =>
    intro h
    show (if f (n + k) then cnt f (n + k) + 1 else cnt f (n + k)) = _
    rw [if_neg (by rw [h (n + k) (by omega) (by omega)]; decide), ih (fun i h1 h2 => h i h1 (by omega))]
theorem bP_np {w : Nat} (t : tA T) (hro : rOk T r) : cnt (fun p => decide (dg (wsh T r w) p = 4)) (tn (T 0 1)) = bP T r w := by
  have p6 := t.p6
  have e := cnt_more (f := fun p => decide (dg (wsh T r w) p = 4)) (n := tn (T 0 1)) (6 - tn (T 0 1)) (fun i h1 h2 => by
    rw [show dg (wsh T r w) i = 0 from dg0 (rOk_set t (rOk_w t hro)).1 (by omega) h1]
    decide)
  rw [show tn (T 0 1) + (6 - tn (T 0 1)) = 6 by omega] at e
  exact e.symm
theorem l_bPr {s : Nat} (M : RM T l h) (hs2 : s < 2 ^ 31) (kk : Q (.int (nI (cnt (fun p => decide (dg s p = 4)) (tn (T 0 1))))) h) : ∀ (m p : Nat), p + m = tn (T 0 1) → Ev 246 4 [.ref 69, .int (nI s), .int (nI (cnt (fun p => decide (dg s p = 4)) p)), .int (nI p)] [] h Q := by
  have e1 := M.np
  have e18 := M.2.1
  have l2 := M.l2
  have p6 := M.p6
  intro m
  induction m with
  | zero =>
    intro p hm
    refine B_246_4 M.1 ?_
    try simp (disch := omega) only [lit, tn_nI, z_inb, nI_add, pk_mul, z_le, z_nle, z_lt, z_nlt, z_ne, z_m1, pk_sub, xI_ss, xI_sd, xI_n, eq_self, true_and, and_true, and_self, not_true_eq_false, not_false_eq_true, false_implies, true_implies, implies_true, Classical.not_not, forall_const, true_or, or_true, false_or, or_false, false_and, and_false, if_true, if_false, ite_true, ite_false, reduceIte, reduceCtorEq, e18, e1]
    rw [show p = tn (T 0 1) by omega]
    exact kk
  | succ m ih =>
    intro p hm
    have nx := ih (p + 1) (by omega)
    have hd := dg_le (s := s) (p := p)
    have eb : cnt (fun p => decide (dg s p = 4)) (p + 1) = if decide (dg s p = 4) then cnt (fun p => decide (dg s p = 4)) p + 1 else cnt (fun p => decide (dg s p = 4)) p := rfl
    refine B_246_4 M.1 ?_
    try simp (disch := omega) only [lit, tn_nI, z_inb, nI_add, pk_mul, z_le, z_nle, z_lt, z_nlt, z_ne, z_m1, pk_sub, xI_ss, xI_sd, xI_n, eq_self, true_and, and_true, and_self, not_true_eq_false, not_false_eq_true, false_implies, true_implies, implies_true, Classical.not_not, forall_const, true_or, or_true, false_or, or_false, false_and, and_false, if_true, if_false, ite_true, ite_false, reduceIte, reduceCtorEq, e18, e1]
    refine c_dgR M.1 hs2 (by omega) ⟨M.1, ?_⟩
    by_cases q : dg s p = 4
    · rw [eb, if_pos (decide_eq_true q)] at nx
      rw [q]
      try simp (disch := omega) only [lit, tn_nI, z_inb, nI_add, pk_mul, z_le, z_nle, z_lt, z_nlt, z_ne, z_m1, pk_sub, xI_ss, xI_sd, xI_n, eq_self, true_and, and_true, and_self, not_true_eq_false, not_false_eq_true, false_implies, true_implies, implies_true, Classical.not_not, forall_const, true_or, or_true, false_or, or_false, false_and, and_false, if_true, if_false, ite_true, ite_false, reduceIte, reduceCtorEq]
      exact nx
    · rw [eb, if_neg (by rw [decide_eq_false q]; decide)] at nx
      try simp (disch := omega) only [lit, tn_nI, z_inb, nI_add, pk_mul, z_le, z_nle, z_lt, z_nlt, z_ne, z_m1, pk_sub, xI_ss, xI_sd, xI_n, eq_self, true_and, and_true, and_self, not_true_eq_false, not_false_eq_true, false_implies, true_implies, implies_true, Classical.not_not, forall_const, true_or, or_true, false_or, or_false, false_and, and_false, if_true, if_false, ite_true, ite_false, reduceIte, reduceCtorEq]
      exact nx
theorem c_bPr {w : Nat} {K : Int32 → XH → Prop} (A : RF T l r h) (hw : w < wN T) (k : K (nI (bP T r w)) h) : ClI 246 [.ref 69, .int (nI (wsh T r w))] h K := by
  have hlt := wsh_lt (w := w) A.1.2.2.2 A.2.2.1
  refine B_246_0 A.1.1 (l_bPr A.1 (by omega) ⟨_, rfl, ?_⟩ (tn (T 0 1)) 0 (by omega))
  rw [bP_np A.1.2.2.2 A.2.2.1]
  exact k
theorem l_rbest {j : Nat} (hj : j < 3) (A : RF T l r h) (kk : Q (.int (aBest T r j)) h) : ∀ (k w b : Nat), w + k = wN T → b < wN T → bst T r (wN T - 1) 1 0 = bst T r k w b → Ev 245 19 [.ref 69, .int (nI j), .int (nI b), .int (nI w), .null] [] h Q := by
  obtain ⟨e6, W2⟩ := A.1.wn
  have e18 := A.1.2.1
  have l2 := A.1.l2
  intro k
  induction k with
  | zero =>
    intro w b hk hb e
    have eb := A.2.2.2 b hb
    have e : bst T r (wN T - 1) 1 0 = b := e
    unfold aBest at kk
    rw [e] at kk
    refine B_245_19 A.1.1 ?_
    rcases (show j = 0 ∨ j = 1 ∨ j = 2 by omega) with z | z | z
    · subst z
      try simp (disch := omega) only [lit, tn_nI, z_inb, nI_add, pk_mul, z_le, z_nle, z_lt, z_nlt, z_ne, z_m1, pk_sub, xI_ss, xI_sd, xI_n, eq_self, true_and, and_true, and_self, not_true_eq_false, not_false_eq_true, false_implies, true_implies, implies_true, Classical.not_not, forall_const, true_or, or_true, false_or, or_false, false_and, and_false, if_true, if_false, ite_true, ite_false, reduceIte, reduceCtorEq, e18, e6]
      exact kk
    · subst z
      try simp (disch := omega) only [lit, tn_nI, z_inb, nI_add, pk_mul, z_le, z_nle, z_lt, z_nlt, z_ne, z_m1, pk_sub, xI_ss, xI_sd, xI_n, eq_self, true_and, and_true, and_self, not_true_eq_false, not_false_eq_true, false_implies, true_implies, implies_true, Classical.not_not, forall_const, true_or, or_true, false_or, or_false, false_and, and_false, if_true, if_false, ite_true, ite_false, reduceIte, reduceCtorEq, e18, e6, eb]
      exact c_bPr A hb ⟨A.1.1, kk⟩
    · subst z
      try simp (disch := omega) only [lit, tn_nI, z_inb, nI_add, pk_mul, z_le, z_nle, z_lt, z_nlt, z_ne, z_m1, pk_sub, xI_ss, xI_sd, xI_n, eq_self, true_and, and_true, and_self, not_true_eq_false, not_false_eq_true, false_implies, true_implies, implies_true, Classical.not_not, forall_const, true_or, or_true, false_or, or_false, false_and, and_false, if_true, if_false, ite_true, ite_false, reduceIte, reduceCtorEq, e18, e6]
      exact c_uNr A.1 A.2.1 (by omega) ⟨A.1.1, kk⟩
  | succ k ih =>
    intro w b hk hb e
    have ew := A.2.2.2 w (by omega)
    have eb := A.2.2.2 b hb
    have b1 := bP_le (T := T) (r := r) (w := w)
    have b2 := bP_le (T := T) (r := r) (w := b)
    have u1 := uN_le (r := r) (w := w) A.1.f8
    have u2 := uN_le (r := r) (w := b) A.1.f8
    have e : bst T r (wN T - 1) 1 0 = bst T r k (w + 1) (if bP T r b < bP T r w ∨ (bP T r w = bP T r b ∧ uN T r w < uN T r b) then w else b) := e
    refine B_245_19 A.1.1 ?_
    try simp (disch := omega) only [lit, tn_nI, z_inb, nI_add, pk_mul, z_le, z_nle, z_lt, z_nlt, z_ne, z_m1, pk_sub, xI_ss, xI_sd, xI_n, eq_self, true_and, and_true, and_self, not_true_eq_false, not_false_eq_true, false_implies, true_implies, implies_true, Classical.not_not, forall_const, true_or, or_true, false_or, or_false, false_and, and_false, if_true, if_false, ite_true, ite_false, reduceIte, reduceCtorEq, e18, e6, ew]
    refine c_bPr A (by omega) ⟨A.1.1, ?_⟩
    try simp (disch := omega) only [lit, tn_nI, z_inb, nI_add, pk_mul, z_le, z_nle, z_lt, z_nlt, z_ne, z_m1, pk_sub, xI_ss, xI_sd, xI_n, eq_self, true_and, and_true, and_self, not_true_eq_false, not_false_eq_true, false_implies, true_implies, implies_true, Classical.not_not, forall_const, true_or, or_true, false_or, or_false, false_and, and_false, if_true, if_false, ite_true, ite_false, reduceIte, reduceCtorEq, eb]
    refine c_bPr A hb ⟨A.1.1, ?_⟩
    rcases Nat.lt_trichotomy (bP T r w) (bP T r b) with q | q | q
    · rw [if_neg (by omega)] at e
      have z1 := pk_sneg (a := bP T r w) (b := bP T r b) (by omega) q
      refine ⟨fun z => absurd (Int32.lt_trans z1 z) Int32.lt_irrefl, fun _ => ⟨fun _ => ih (w + 1) b (by omega) hb e, fun z => ?_⟩⟩
      rw [z] at z1
      exact absurd z1 (by decide)
    · rw [q]
      try simp (disch := omega) only [lit, tn_nI, z_inb, nI_add, pk_mul, z_le, z_nle, z_lt, z_nlt, z_ne, z_m1, pk_sub, xI_ss, xI_sd, xI_n, eq_self, true_and, and_true, and_self, not_true_eq_false, not_false_eq_true, false_implies, true_implies, implies_true, Classical.not_not, forall_const, true_or, or_true, false_or, or_false, false_and, and_false, if_true, if_false, ite_true, ite_false, reduceIte, reduceCtorEq, Nat.sub_self]
      refine c_uNr A.1 A.2.1 (by omega) ⟨A.1.1, c_uNr A.1 A.2.1 (by omega) ⟨A.1.1, ?_⟩⟩
      by_cases z : uN T r w < uN T r b
      · rw [if_pos (Or.inr ⟨q, z⟩)] at e
        try simp (disch := omega) only [lit, tn_nI, z_inb, nI_add, pk_mul, z_le, z_nle, z_lt, z_nlt, z_ne, z_m1, pk_sub, xI_ss, xI_sd, xI_n, eq_self, true_and, and_true, and_self, not_true_eq_false, not_false_eq_true, false_implies, true_implies, implies_true, Classical.not_not, forall_const, true_or, or_true, false_or, or_false, false_and, and_false, if_true, if_false, ite_true, ite_false, reduceIte, reduceCtorEq]
        exact ih (w + 1) w (by omega) (by omega) e
      · rw [if_neg (by omega)] at e
        try simp (disch := omega) only [lit, tn_nI, z_inb, nI_add, pk_mul, z_le, z_nle, z_lt, z_nlt, z_ne, z_m1, pk_sub, xI_ss, xI_sd, xI_n, eq_self, true_and, and_true, and_self, not_true_eq_false, not_false_eq_true, false_implies, true_implies, implies_true, Classical.not_not, forall_const, true_or, or_true, false_or, or_false, false_and, and_false, if_true, if_false, ite_true, ite_false, reduceIte, reduceCtorEq]
        exact ih (w + 1) b (by omega) hb e
    · rw [if_pos (Or.inl q)] at e
      try simp (disch := omega) only [lit, tn_nI, z_inb, nI_add, pk_mul, z_le, z_nle, z_lt, z_nlt, z_ne, z_m1, pk_sub, xI_ss, xI_sd, xI_n, eq_self, true_and, and_true, and_self, not_true_eq_false, not_false_eq_true, false_implies, true_implies, implies_true, Classical.not_not, forall_const, true_or, or_true, false_or, or_false, false_and, and_false, if_true, if_false, ite_true, ite_false, reduceIte, reduceCtorEq]
      exact ih (w + 1) w (by omega) (by omega) e
theorem c_rBest {x : Int32} {K : Int32 → XH → Prop} (M : RM T l h) (hr : rq (xI h 108) r) (hro : rOk T r) (k : ∀ h1, Gx SV [58, 61] h h1 → K (opN x 3 (-1) (fun w => aBest T r w)) h1) : ClI 245 [.ref 69, .int x] h K := by
  refine B_245_0 M.1 (c_inM (m := 2) M.1 (by decide) (fun w hw e => ⟨M.1, ?_⟩) (fun q => ⟨M.1, ?_⟩))
  · subst e
    rw [opN_1 hw (by omega)] at k
    try simp (disch := omega) only [lit, tn_nI, z_inb, nI_add, pk_mul, z_le, z_nle, z_lt, z_nlt, z_ne, z_m1, pk_sub, xI_ss, xI_sd, xI_n, eq_self, true_and, and_true, and_self, not_true_eq_false, not_false_eq_true, false_implies, true_implies, implies_true, Classical.not_not, forall_const, true_or, or_true, false_or, or_false, false_and, and_false, if_true, if_false, ite_true, ite_false, reduceIte, reduceCtorEq]
    exact c_fillR M hr hro (fun h1 g A => l_rbest hw A ⟨_, rfl, k h1 g⟩ (wN T - 1) 1 0 (by have := wN_pos (T := T); omega) wN_pos rfl)
  · rw [opN_0 q] at k
    try simp (disch := omega) only [lit, tn_nI, z_inb, nI_add, pk_mul, z_le, z_nle, z_lt, z_nlt, z_ne, z_m1, pk_sub, xI_ss, xI_sd, xI_n, eq_self, true_and, and_true, and_self, not_true_eq_false, not_false_eq_true, false_implies, true_implies, implies_true, Classical.not_not, forall_const, true_or, or_true, false_or, or_false, false_and, and_false, if_true, if_false, ite_true, ite_false, reduceIte, reduceCtorEq]
    exact ⟨_, rfl, k h Gx.rf⟩
abbrev SX : List Nat := [106, 107, 109, 110, 111]
theorem blk_row {w : Nat} (t : tA T) (hro : rOk T r) (hp : p < 6) : setS T (wRow T w r) (8 + p) = nI 4 ↔ blk T r p w = true := by
  have hsh := (rOk_set t (rOk_w (w := w) t hro)).1
  have hd := dg_le (s := wsh T r w) (p := p)
  rw [← dig_r hsh hp]
  unfold blk
  constructor
  · intro z; exact decide_eq_true ((nI_eq (b := 4) (by have : dg (wsh T r w) p ≤ 4 := hd; unfold dg wsh at this; omega) (by decide)).mp z)
  · intro z
    have z : dg (wsh T r w) p = 4 := of_decide_eq_true z
    unfold dg wsh at z
    rw [z]
/-- few, as the reference has it -/
def lsG (T : Nat → Nat → Int32) (r : Nat → Int32) (b : Option Nat) : Int32 := match b with
  | none => -2
  | some v => nI (uN T r v)
theorem l_rleast {j : Nat} (hj : j < 2) (M : RM T l h0) (hr0 : rq (xI h0 108) r) (hro : rOk T r) (hp : p < tn (T 0 1)) (kk : ∀ h1, Gx SX [58, 61] h0 h1 → Q (.int (if j = 0 then lsG T r (lst T r p (wN T) 0 none) else lsW (lst T r p (wN T) 0 none))) h1) : ∀ (k w : Nat) (b : Option Nat) (h : XH), w + k = wN T → (∀ v, b = some v → v < wN T) → Gx SX [58, 61] h0 h → lst T r p (wN T) 0 none = lst T r p k w b → Ev 234 57 [.ref 69, .int (nI p), .int (nI j), .null, .int (lsW b), .int (lsG T r b), .int (nI w), .null] [] h Q := by
  have W2 := M.wn.2
  have p6 := M.p6
  have f8 := M.f8
  have l2 := M.l2
  intro k
  induction k with
  | zero =>
    intro w b h hk hb g e
    have M' := M.gx g (by decide) (by decide)
    have e6 := M'.wn.1
    have e18 := M'.2.1
    have k1 := kk h g
    rw [e] at k1
    refine B_234_57 M'.1 ?_
    rcases (show j = 0 ∨ j = 1 by omega) with z | z
    · subst z; try simp (disch := omega) only [lit, tn_nI, z_inb, nI_add, pk_mul, z_le, z_nle, z_lt, z_nlt, z_ne, z_m1, pk_sub, xI_ss, xI_sd, xI_n, eq_self, true_and, and_true, and_self, not_true_eq_false, not_false_eq_true, false_implies, true_implies, implies_true, Classical.not_not, forall_const, true_or, or_true, false_or, or_false, false_and, and_false, if_true, if_false, ite_true, ite_false, reduceIte, reduceCtorEq, e18, e6]; exact k1
    · subst z; try simp (disch := omega) only [lit, tn_nI, z_inb, nI_add, pk_mul, z_le, z_nle, z_lt, z_nlt, z_ne, z_m1, pk_sub, xI_ss, xI_sd, xI_n, eq_self, true_and, and_true, and_self, not_true_eq_false, not_false_eq_true, false_implies, true_implies, implies_true, Classical.not_not, forall_const, true_or, or_true, false_or, or_false, false_and, and_false, if_true, if_false, ite_true, ite_false, reduceIte, reduceCtorEq, e18, e6]; exact k1
  | succ k ih =>
    intro w b h hk hb g e
    have M' := M.gx g (by decide) (by decide)
    have e6 := M'.wn.1
    have e18 := M'.2.1
    have hr : rq (xI h 108) r := by rw [g.at (by decide) (by decide)]; exact hr0
    have u1 := uN_le (r := r) (w := w) f8
    have e : lst T r p (wN T) 0 none = lst T r p k (w + 1) (if lsB T r p w b then some w else b) := e
    have go : (0 < uN T r w ∧ (match b with | none => True | some v => uN T r w < uN T r v)) → ClV 237 [.ref 69, .int (nI w)] h (fun h3 => Sh h3 ∧ (ClI 226 [.ref 69, .int (nI p)] h3 (fun v6 h5 => Sh h5 ∧ (((¬ v6 = nI 0) → Ev 234 57 [.ref 69, .int (nI p), .int (nI j), .null, .int (nI w), .int (nI (uN T r w)), .int (nI (w + 1)), .null] [] h5 Q) ∧ ((v6 = nI 0) → Ev 234 57 [.ref 69, .int (nI p), .int (nI j), .null, .int (lsW b), .int (lsG T r b), .int (nI (w + 1)), .null] [] h5 Q))))) := by
      intro hc
      refine c_tries M' (by omega) hr hro (fun h1 g1 hr1 => ⟨g1.sh M'.1 (by decide), ?_⟩)
      have hs1 := g1.sh M'.1 (by decide)
      have g2 : Gx SX [58, 61] h0 h1 := g.trm g1 (by decide) (by decide) (by decide) (by decide)
      refine c_black hs1 hr1 (by omega) (fun z => ⟨hs1, ?_⟩) (fun z => ⟨hs1, ?_⟩)
      · have hb1 := (blk_row M.2.2.2 hro (by omega)).mp z
        rw [if_pos (by unfold lsB; rw [hb1, decide_eq_true hc.1]; cases b with
          | none => rfl
          | some v => exact decide_eq_true hc.2)] at e
        refine ⟨fun _ => ih (w + 1) (some w) h1 (by omega) (fun v hv => by cases hv; omega) g2 e, fun z => absurd z (by decide)⟩
      · have hb1 : blk T r p w = false := by
          cases hbb : blk T r p w with
          | true => exact absurd ((blk_row M.2.2.2 hro (by omega)).mpr hbb) z
          | false => rfl
        rw [if_neg (by unfold lsB; rw [hb1]; simp)] at e
        exact ⟨fun z => absurd rfl z, fun _ => ih (w + 1) b h1 (by omega) hb g2 e⟩
    refine B_234_57 M'.1 ?_
    try simp (disch := omega) only [lit, tn_nI, z_inb, nI_add, pk_mul, z_le, z_nle, z_lt, z_nlt, z_ne, z_m1, pk_sub, xI_ss, xI_sd, xI_n, eq_self, true_and, and_true, and_self, not_true_eq_false, not_false_eq_true, false_implies, true_implies, implies_true, Classical.not_not, forall_const, true_or, or_true, false_or, or_false, false_and, and_false, if_true, if_false, ite_true, ite_false, reduceIte, reduceCtorEq, e18, e6]
    refine c_uNr M' hr (by omega) ⟨M'.1, ?_⟩
    by_cases z0 : uN T r w = 0
    · rw [if_neg (by unfold lsB; rw [z0]; simp)] at e
      rw [z0]
      try simp (disch := omega) only [lit, tn_nI, z_inb, nI_add, pk_mul, z_le, z_nle, z_lt, z_nlt, z_ne, z_m1, pk_sub, xI_ss, xI_sd, xI_n, eq_self, true_and, and_true, and_self, not_true_eq_false, not_false_eq_true, false_implies, true_implies, implies_true, Classical.not_not, forall_const, true_or, or_true, false_or, or_false, false_and, and_false, if_true, if_false, ite_true, ite_false, reduceIte, reduceCtorEq]
      exact ih (w + 1) b h (by omega) hb g e
    · have z0' : ¬ nI (uN T r w) = nI 0 := fun q => z0 ((nI_eq (by omega) (by omega)).mp q)
      cases b with
      | none =>
        refine ⟨fun q => absurd q z0', fun _ => ⟨fun _ => go ⟨by omega, trivial⟩, fun q => absurd (by decide) q⟩⟩
      | some v =>
        have hv := hb v rfl
        have u2 := uN_le (r := r) (w := v) f8
        refine ⟨fun q => absurd q z0', fun _ => ⟨fun q => absurd q (nI_pos (by omega)), fun _ => ⟨fun q => ?_, fun q => ?_⟩⟩⟩
        · have q : uN T r w < uN T r v := (nI_ltI (by omega) (by omega)).mp q
          exact go ⟨by omega, q⟩
        · have q : ¬ uN T r w < uN T r v := fun y => q (nI_lt y (by omega))
          rw [if_neg (by unfold lsB; simp; omega)] at e
          exact ih (w + 1) (some v) h (by omega) hb g e
theorem c_rLeast {x y : Int32} {K : Int32 → XH → Prop} (M : RM T l h) (hr : rq (xI h 108) r) (hro : rOk T r) (k : ∀ h1, Gx SX [58, 61] h h1 → K (opN x (tn (T 0 1)) (-1) (fun p => opN y 2 (-1) (fun w => aLeast T r p w))) h1) : ClI 234 [.ref 69, .int x, .int y] h K := by
  have p6 := M.p6
  refine B_234_0 M.1 (c_rPage M (fun p hp e => ⟨M.1, ?_⟩) (fun q => ⟨M.1, ?_⟩))
  · subst e
    rw [opN_1 hp (by omega)] at k
    try simp (disch := omega) only [lit, tn_nI, z_inb, nI_add, pk_mul, z_le, z_nle, z_lt, z_nlt, z_ne, z_m1, pk_sub, xI_ss, xI_sd, xI_n, eq_self, true_and, and_true, and_self, not_true_eq_false, not_false_eq_true, false_implies, true_implies, implies_true, Classical.not_not, forall_const, true_or, or_true, false_or, or_false, false_and, and_false, if_true, if_false, ite_true, ite_false, reduceIte, reduceCtorEq]
    refine c_inM (m := 1) M.1 (by decide) (fun j hj e => ⟨M.1, ?_⟩) (fun q => ⟨M.1, ?_⟩)
    · subst e
      rw [opN_1 hj (by omega)] at k
      unfold aLeast at k
      try simp (disch := omega) only [lit, tn_nI, z_inb, nI_add, pk_mul, z_le, z_nle, z_lt, z_nlt, z_ne, z_m1, pk_sub, xI_ss, xI_sd, xI_n, eq_self, true_and, and_true, and_self, not_true_eq_false, not_false_eq_true, false_implies, true_implies, implies_true, Classical.not_not, forall_const, true_or, or_true, false_or, or_false, false_and, and_false, if_true, if_false, ite_true, ite_false, reduceIte, reduceCtorEq]
      refine c_copies M hr (fun h1 g1 hr1 e61 => ⟨g1.sh M.1 (by decide), ?_⟩)
      have M1 := M.gx g1 (by decide) (by decide)
      have g1' : Gx SX [58, 61] h h1 := g1.mono (by decide) (by decide)
      have hr2 : rq (xI h1 108) r := by rw [g1.at (by decide) (by decide)]; exact hr
      refine c_wNow M1 hr1 hro ⟨M1.1, ?_⟩
      refine c_black M1.1 hr1 (by omega) (fun z => ⟨M1.1, ?_⟩) (fun z => ⟨M1.1, ?_⟩)
      · rw [if_pos z] at k
        have k1 := k h1 g1'
        rcases (show j = 0 ∨ j = 1 by omega) with z | z
        · subst z; try simp (disch := omega) only [lit, tn_nI, z_inb, nI_add, pk_mul, z_le, z_nle, z_lt, z_nlt, z_ne, z_m1, pk_sub, xI_ss, xI_sd, xI_n, eq_self, true_and, and_true, and_self, not_true_eq_false, not_false_eq_true, false_implies, true_implies, implies_true, Classical.not_not, forall_const, true_or, or_true, false_or, or_false, false_and, and_false, if_true, if_false, ite_true, ite_false, reduceIte, reduceCtorEq]; exact ⟨_, rfl, k1⟩
        · subst z; try simp (disch := omega) only [lit, tn_nI, z_inb, nI_add, pk_mul, z_le, z_nle, z_lt, z_nlt, z_ne, z_m1, pk_sub, xI_ss, xI_sd, xI_n, eq_self, true_and, and_true, and_self, not_true_eq_false, not_false_eq_true, false_implies, true_implies, implies_true, Classical.not_not, forall_const, true_or, or_true, false_or, or_false, false_and, and_false, if_true, if_false, ite_true, ite_false, reduceIte, reduceCtorEq]; exact ⟨_, rfl, k1⟩
      · rw [if_neg z] at k
        try simp (disch := omega) only [lit, tn_nI, z_inb, nI_add, pk_mul, z_le, z_nle, z_lt, z_nlt, z_ne, z_m1, pk_sub, xI_ss, xI_sd, xI_n, eq_self, true_and, and_true, and_self, not_true_eq_false, not_false_eq_true, false_implies, true_implies, implies_true, Classical.not_not, forall_const, true_or, or_true, false_or, or_false, false_and, and_false, if_true, if_false, ite_true, ite_false, reduceIte, reduceCtorEq]
        refine l_rleast hj M1 hr2 hro hp (fun h2 g2 => ⟨_, rfl, ?_⟩) (wN T) 0 none h1 (by omega) (fun v e => by cases e) Gx.rf rfl
        have k1 := k h2 (g1'.tr g2)
        cases hl : lst T r p (wN T) 0 none with
        | none =>
          rw [hl] at k1
          rcases (show j = 0 ∨ j = 1 by omega) with z | z
          · subst z; exact k1
          · subst z; exact k1
        | some v =>
          rw [hl] at k1
          rcases (show j = 0 ∨ j = 1 by omega) with z | z
          · subst z; exact k1
          · subst z; exact k1
    · rw [opN_0 q] at k
      try simp (disch := omega) only [lit, tn_nI, z_inb, nI_add, pk_mul, z_le, z_nle, z_lt, z_nlt, z_ne, z_m1, pk_sub, xI_ss, xI_sd, xI_n, eq_self, true_and, and_true, and_self, not_true_eq_false, not_false_eq_true, false_implies, true_implies, implies_true, Classical.not_not, forall_const, true_or, or_true, false_or, or_false, false_and, and_false, if_true, if_false, ite_true, ite_false, reduceIte, reduceCtorEq]
      exact ⟨_, rfl, k h Gx.rf⟩
  · rw [opN_0 q] at k
    try simp (disch := omega) only [lit, tn_nI, z_inb, nI_add, pk_mul, z_le, z_nle, z_lt, z_nlt, z_ne, z_m1, pk_sub, xI_ss, xI_sd, xI_n, eq_self, true_and, and_true, and_self, not_true_eq_false, not_false_eq_true, false_implies, true_implies, implies_true, Classical.not_not, forall_const, true_or, or_true, false_or, or_false, false_and, and_false, if_true, if_false, ite_true, ite_false, reduceIte, reduceCtorEq]
    exact ⟨_, rfl, k h Gx.rf⟩
end RBs

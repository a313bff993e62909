/-! WHAT WAS SEEN: fits, sure; the class -/
def SNc (T : Nat → Nat → Int32) (h : XH) (n : Nat) (q : Nat → Nat × Nat × Nat) : Prop := n ≤ 20 ∧ xI h 58 0 = nI n ∧ ∀ i, i < n → xI h 59 i = nI (q i).1 ∧ xI h 60 i = nI (q i).2.1 ∧ xI h 61 i = nI (q i).2.2 ∧ (q i).1 < tn (T 0 1) ∧ (q i).2.1 ≤ 30 ∧ (q i).2.2 ≤ 4
def fit (T : Nat → Nat → Int32) (q : Nat → Nat × Nat × Nat) (k w : Nat) : Prop := ∀ i, i < k → dg (bsh T w (q i).2.1) (q i).1 = (q i).2.2
def lkI (q : Nat → Nat × Nat × Nat) : Nat → Int32
  | 0 => -1
  | k + 1 => if lkI q k < nI (q k).2.1 then nI (q k).2.1 else lkI q k
theorem lkI_n {q : Nat → Nat × Nat × Nat} : ∀ k, (∀ i, i < k → (q i).2.1 ≤ 30) → (k = 0 ∧ lkI q k = -1) ∨ ∃ m, m ≤ 30 ∧ lkI q k = nI m ∧ ∀ i, i < k → (q i).2.1 ≤ m := by
  intro k
  induction k with
  | zero => intro _; exact Or.inl ⟨rfl, rfl⟩
  | succ k ih =>
    intro h
    have hk := h k (by omega)
    right
    rcases ih (fun i hi => h i (by omega)) with ⟨k0, e⟩ | ⟨m, hm, e, hall⟩
    · refine ⟨(q k).2.1, hk, ?_, fun i hi => by rw [show i = k by omega]; exact Nat.le_refl _⟩
      unfold lkI
      rw [e, if_pos (Int32.lt_of_lt_of_le (by decide) (nI_pos' (by omega)))]
    · by_cases z : m < (q k).2.1
      · refine ⟨(q k).2.1, hk, ?_, fun i hi => ?_⟩
        · unfold lkI
          rw [e, if_pos (nI_lt z (by omega))]
        · by_cases y : i = k
          · rw [y]; exact Nat.le_refl _
          · have := hall i (by omega); omega
      · refine ⟨m, hm, ?_, fun i hi => ?_⟩
        · unfold lkI
          rw [e, if_neg (nI_nlt (by omega) (by omega))]
        · by_cases y : i = k
          · rw [y]; omega
          · exact hall i (by omega)
/-- Begun's own: what was seen, days gone -/
def CG (T : Nat → Nat → Int32) (c n : Nat) (q : Nat → Nat × Nat × Nat) (h : XH) : Prop := CM T c h ∧ RmOk h ∧ BOk T h ∧ SNc T h n q
/-- gone far enough for the first k -/
def KN (T : Nat → Nat → Int32) (q : Nat → Nat × Nat × Nat) (k : Nat) (h : XH) : Prop := k = 0 ∨ ∃ m, BOn T h m ∧ ∀ i, i < k → (q i).2.1 ≤ m
theorem SNc.bx {T : Nat → Nat → Int32} {h h1 : XH} {n : Nat} {q : Nat → Nat × Nat × Nat} (S : SNc T h n q) (s : Sh h) (b : Bx h h1) : SNc T h1 n q := by
  unfold SNc
  rw [b.2, b.1.at s (by decide) (by decide) gb_gk (by decide), b.1.at s (by decide) (by decide) gb_gk (by decide), b.1.at s (by decide) (by decide) gb_gk (by decide)]
  exact S
theorem rm_9 {h : XH} (rm : RmOk h) : xN h (xR h 58 9) ≤ 65536 := p2_le (by have := rm_gl rm (q := (58, 9, 1, 65)) (by decide); unfold okL at this; simpa using this)
section FT
variable {T : Nat → Nat → Int32} {c n : Nat} {q : Nat → Nat × Nat × Nat} {h0 h : XH} {Q : Value → XH → Prop}
theorem c_known {x : Int32} {K : Int32 → XH → Prop} (A : CG T c n q h) (k1 : ∀ k, k < n + 1 → x = nI k → K (nI 1) h) (k0 : (x < 0 ∨ nI (n + 1) ≤ x) → K (nI 0) h) : ClI 141 [.ref 58, .int x] h K := by
  obtain ⟨n20, e58, -⟩ := A.2.2.2
  refine B_141_0 A.1.1 ?_
  rw [e58]
  refine ⟨fun z => ⟨_, rfl, k0 (Or.inl z)⟩, fun z => ⟨fun y => ⟨_, rfl, k0 (Or.inr ((gt_n z (by omega)).mp y))⟩, fun y => ⟨_, rfl, ?_⟩⟩⟩
  exact in_n (n := n + 1) (x := x) (by omega) (fun j hj e => k1 j hj e) (fun e => e.elim (fun e => absurd e z) (fun e => absurd ((gt_n z (by omega)).mpr e) y))
theorem l_lk {k : Nat} (hs : Sh h) (S : SNc T h n q) (hk : k ≤ n) (kk : Q (.int (lkI q k)) h) : ∀ (j i : Nat), i + j = k → Ev 142 4 [.ref 58, .int (nI k), .int (lkI q i), .int (nI i)] [] h Q := by
  obtain ⟨n20, e58, hall⟩ := S
  intro j
  induction j with
  | zero =>
    intro i hj
    refine B_142_4 hs ?_
    try simp (disch := omega) only [lit, tn_nI, z_inb, nI_add, pk_mul, z_le, z_nle, z_lt, z_nlt, z_ne, z_m1, pk_sub, xI_ss, xI_sd, xI_n, eq_self, true_and, and_true, and_self, not_true_eq_false, not_false_eq_true, false_implies, true_implies, implies_true, Classical.not_not, forall_const, true_or, or_true, false_or, or_false, false_and, and_false, if_true, if_false, ite_true, ite_false, reduceIte, reduceCtorEq]
    rw [show i = k by omega]
    exact kk
  | succ j ih =>
    intro i hj
    have e60 := (hall i (by omega)).2.1
    refine B_142_4 hs ?_
    rw [e58, tn_nI (show i < 2 ^ 31 by omega), e60, nI_1]
    refine ⟨fun z => absurd z (nI_ge (by omega) (by omega)), fun _ => ⟨fun z => absurd z (nI_ge (by omega) (by omega)), fun _ => ⟨inb (by omega) (by decide), ?_⟩⟩⟩
    exact ih (i + 1) (by omega)
theorem c_toK {k : Nat} {K : XH → Prop} (A : CG T c n q h) (hk : k ≤ n) (kk : ∀ h1, Bx h h1 → CG T c n q h1 → KN T q k h1 → K h1) : ClI 142 [.ref 58, .int (nI k)] h (fun v h1 => Sh h1 ∧ ClV 127 [.ref 58, .int v] h1 (fun h2 => Sh h2 ∧ K h2)) := by
  obtain ⟨M, rm, B, S⟩ := A
  refine B_142_0 M.1 (l_lk M.1 S hk ⟨_, rfl, M.1, ?_⟩ k 0 (by omega))
  rcases lkI_n (q := q) k (fun i hi => (S.2.2 i (by omega)).2.2.2.2.1) with ⟨k0, e⟩ | ⟨m, hm, e, hall⟩
  · rw [e]
    exact c_reachN M B ⟨M.1, kk h (Bx.rf M.1) ⟨M, rm, B, S⟩ (Or.inl k0)⟩
  · rw [e]
    exact c_reach M rm B hm (fun h1 m1 b M1 r1 B1 Bn hle => ⟨M1.1, kk h1 b ⟨M1, r1, B1, S.bx M.1 b⟩ (Or.inr ⟨m1, Bn, fun i hi => by have := hall i hi; omega⟩)⟩)
theorem l_fit {k w : Nat} (A : CG T c n q h) (hk : k ≤ n) (kn : KN T q k h) (hw : w < wN T) (k1 : fit T q k w → Q (.int (nI 1)) h) (k0 : ¬ fit T q k w → Q (.int (nI 0)) h) : ∀ (j i : Nat), i + j = k → (∀ v, v < i → dg (bsh T w (q v).2.1) (q v).1 = (q v).2.2) → Ev 144 14 [.ref 58, .int (nI w), .int (nI k), .int (nI (wN T)), .int (nI i)] [] h Q := by
  obtain ⟨M, rm, B, n20, e58, hall⟩ := A
  have W2 : wN T ≤ 2000 := M.2.2.2.w.1
  have p6 := M.p6
  have r9 := rm_9 rm
  intro j
  induction j with
  | zero =>
    intro i hj hq
    refine B_144_14 M.1 ?_
    try simp (disch := omega) only [lit, tn_nI, z_inb, nI_add, pk_mul, z_le, z_nle, z_lt, z_nlt, z_ne, z_m1, pk_sub, xI_ss, xI_sd, xI_n, eq_self, true_and, and_true, and_self, not_true_eq_false, not_false_eq_true, false_implies, true_implies, implies_true, Classical.not_not, forall_const, true_or, or_true, false_or, or_false, false_and, and_false, if_true, if_false, ite_true, ite_false, reduceIte, reduceCtorEq]
    exact k1 (fun v hv => hq v (by omega))
  | succ j ih =>
    intro i hj hq
    obtain ⟨e59, e60, e61, q1, q2, q3⟩ := hall i (by omega)
    obtain ⟨m, Bn, hm⟩ : ∃ m, BOn T h m ∧ ∀ i, i < k → (q i).2.1 ≤ m := by
      rcases kn with z | z
      · omega
      · exact z
    have hmi := hm i (by omega)
    have ev := Bn.2.2.2.2.2.1 (q i).2.1 w hmi hw
    have hl9 := Bn.2.2.2.1
    have hib : (q i).2.1 * wN T + w < 31 * wN T := by
      have : ((q i).2.1 + 1) * wN T ≤ 31 * wN T := Nat.mul_le_mul_right _ (by omega)
      rw [Nat.add_mul, Nat.one_mul] at this
      omega
    have hlt : bsh T w (q i).2.1 < 15625 := num_r6 (bD_ok M.2.2.2 w _).1.1
    have hd := dg_le (s := bsh T w (q i).2.1) (p := (q i).1)
    refine B_144_14 M.1 ?_
    try simp (disch := omega) only [lit, tn_nI, z_inb, nI_add, pk_mul, z_le, z_nle, z_lt, z_nlt, z_ne, z_m1, pk_sub, xI_ss, xI_sd, xI_n, eq_self, true_and, and_true, and_self, not_true_eq_false, not_false_eq_true, false_implies, true_implies, implies_true, Classical.not_not, forall_const, true_or, or_true, false_or, or_false, false_and, and_false, if_true, if_false, ite_true, ite_false, reduceIte, reduceCtorEq, e60, ev, e59]
    refine c_dg M.1 (by omega) (by omega) ⟨M.1, ?_⟩
    by_cases z : dg (bsh T w (q i).2.1) (q i).1 = (q i).2.2
    · rw [z]
      try simp (disch := omega) only [lit, tn_nI, z_inb, nI_add, pk_mul, z_le, z_nle, z_lt, z_nlt, z_ne, z_m1, pk_sub, xI_ss, xI_sd, xI_n, eq_self, true_and, and_true, and_self, not_true_eq_false, not_false_eq_true, false_implies, true_implies, implies_true, Classical.not_not, forall_const, true_or, or_true, false_or, or_false, false_and, and_false, if_true, if_false, ite_true, ite_false, reduceIte, reduceCtorEq, e61]
      exact ih (i + 1) (by omega) (fun v hv => by
        by_cases y : v = i
        · subst y; exact z
        · exact hq v (by omega))
    · try simp (disch := omega) only [lit, tn_nI, z_inb, nI_add, pk_mul, z_le, z_nle, z_lt, z_nlt, z_ne, z_m1, pk_sub, xI_ss, xI_sd, xI_n, eq_self, true_and, and_true, and_self, not_true_eq_false, not_false_eq_true, false_implies, true_implies, implies_true, Classical.not_not, forall_const, true_or, or_true, false_or, or_false, false_and, and_false, if_true, if_false, ite_true, ite_false, reduceIte, reduceCtorEq, e61]
      exact k0 (fun y => z (y i (by omega)))
theorem c_fit {k w : Nat} {K : Int32 → XH → Prop} (A : CG T c n q h) (hk : k ≤ n) (kn : KN T q k h) (hw : w < wN T) (k1 : fit T q k w → K (nI 1) h) (k0 : ¬ fit T q k w → K (nI 0) h) : ClI 144 [.ref 58, .int (nI w), .int (nI k)] h K := by
  have e6 : xI h (xR h 34 0) 6 = nI (wN T) := by rw [A.1.2.1, A.1.t0]; exact A.1.2.2.2.w.2.1
  refine B_144_0 A.1.1 ?_
  rw [e6]
  exact l_fit A hk kn hw (fun z => ⟨_, rfl, k1 z⟩) (fun z => ⟨_, rfl, k0 z⟩) k 0 (by omega) (fun v hv => absurd hv (by omega))
theorem l_cfits {k : Nat} {i : Int32} (A : CG T c n q h) (hk : k ≤ n) (kn : KN T q k h) (kk : Q (.int (selP (fit T q k) i (wN T) 0 0)) h) : ∀ (j w m : Nat), w + j = wN T → m ≤ w → selP (fit T q k) i (wN T) 0 0 = selP (fit T q k) i j w m → Ev 143 5 [.ref 58, .int (nI k), .int i, .int (nI m), .int (nI w)] [] h Q := by
  have W2 : wN T ≤ 2000 := A.1.2.2.2.w.1
  have e6 : xI h (xR h 34 0) 6 = nI (wN T) := by rw [A.1.2.1, A.1.t0]; exact A.1.2.2.2.w.2.1
  have hs := A.1.1
  intro j
  induction j with
  | zero =>
    intro w m hj hm e
    refine B_143_5 hs ?_
    try simp (disch := omega) only [lit, tn_nI, z_inb, nI_add, pk_mul, z_le, z_nle, z_lt, z_nlt, z_ne, z_m1, pk_sub, xI_ss, xI_sd, xI_n, eq_self, true_and, and_true, and_self, not_true_eq_false, not_false_eq_true, false_implies, true_implies, implies_true, Classical.not_not, forall_const, true_or, or_true, false_or, or_false, false_and, and_false, if_true, if_false, ite_true, ite_false, reduceIte, reduceCtorEq, e6]
    rw [e, selP_z] at kk
    refine ⟨fun z => ?_, fun z => ?_⟩
    · rw [if_neg (show ¬ i = -1 from z)] at kk; exact kk
    · rw [if_pos (show i = -1 from z)] at kk; exact kk
  | succ j ih =>
    intro w m hj hm e
    refine B_143_5 hs ?_
    try simp (disch := omega) only [lit, tn_nI, z_inb, nI_add, pk_mul, z_le, z_nle, z_lt, z_nlt, z_ne, z_m1, pk_sub, xI_ss, xI_sd, xI_n, eq_self, true_and, and_true, and_self, not_true_eq_false, not_false_eq_true, false_implies, true_implies, implies_true, Classical.not_not, forall_const, true_or, or_true, false_or, or_false, false_and, and_false, if_true, if_false, ite_true, ite_false, reduceIte, reduceCtorEq, e6]
    refine c_fit A hk kn (by omega) (fun z => ⟨hs, ?_⟩) (fun z => ⟨hs, ?_⟩)
    · rw [selP_1 z] at e
      try simp (disch := omega) only [lit, tn_nI, z_inb, nI_add, pk_mul, z_le, z_nle, z_lt, z_nlt, z_ne, z_m1, pk_sub, xI_ss, xI_sd, xI_n, eq_self, true_and, and_true, and_self, not_true_eq_false, not_false_eq_true, false_implies, true_implies, implies_true, Classical.not_not, forall_const, true_or, or_true, false_or, or_false, false_and, and_false, if_true, if_false, ite_true, ite_false, reduceIte, reduceCtorEq]
      refine ⟨fun y => ?_, fun y => ?_⟩
      · rw [if_neg y] at e
        exact ih (w + 1) (m + 1) (by omega) (by omega) e
      · rw [if_pos y] at e
        rw [e] at kk
        exact kk
    · rw [selP_0 z] at e
      try simp (disch := omega) only [lit, tn_nI, z_inb, nI_add, pk_mul, z_le, z_nle, z_lt, z_nlt, z_ne, z_m1, pk_sub, xI_ss, xI_sd, xI_n, eq_self, true_and, and_true, and_self, not_true_eq_false, not_false_eq_true, false_implies, true_implies, implies_true, Classical.not_not, forall_const, true_or, or_true, false_or, or_false, false_and, and_false, if_true, if_false, ite_true, ite_false, reduceIte, reduceCtorEq]
      exact ih (w + 1) m (by omega) (by omega) e
noncomputable def oFits (T : Nat → Nat → Int32) (n : Nat) (q : Nat → Nat × Nat × Nat) (x i : Int32) : Int32 := opN x (n + 1) (-1) (fun k => if i < -1 then -1 else selP (fit T q k) i (wN T) 0 0)
theorem c_cFits {x i : Int32} {K : Int32 → XH → Prop} (A : CG T c n q h) (k : ∀ h1, Bx h h1 → CG T c n q h1 → K (oFits T n q x i) h1) : ClI 140 [.ref 4, .int x, .int i] h K := by
  have n20 := A.2.2.2.1
  unfold oFits at k
  refine B_140_0 A.1.1 (c_known A (fun j hj e => ⟨A.1.1, ?_⟩) (fun e => ⟨A.1.1, ?_⟩))
  · subst e
    rw [opN_1 hj (by omega)] at k
    try simp (disch := omega) only [lit, tn_nI, z_inb, nI_add, pk_mul, z_le, z_nle, z_lt, z_nlt, z_ne, z_m1, pk_sub, xI_ss, xI_sd, xI_n, eq_self, true_and, and_true, and_self, not_true_eq_false, not_false_eq_true, false_implies, true_implies, implies_true, Classical.not_not, forall_const, true_or, or_true, false_or, or_false, false_and, and_false, if_true, if_false, ite_true, ite_false, reduceIte, reduceCtorEq]
    refine ⟨fun z => ?_, fun z => ?_⟩
    · have z : (-1 : Int32) ≤ i := z
      rw [if_neg (Int32.not_lt.mpr z)] at k
      refine c_toK A (by omega) (fun h1 b A1 kn => ?_)
      exact B_143_0 A1.1.1 (l_cfits A1 (by omega) kn ⟨_, rfl, A1.1.1, _, rfl, k h1 b A1⟩ (wN T) 0 0 (by omega) (by omega) rfl)
    · have z : ¬ (-1 : Int32) ≤ i := z
      rw [if_pos (Int32.not_le.mp z)] at k
      exact ⟨_, rfl, k h (Bx.rf A.1.1) A⟩
  · rw [opN_0 e] at k
    try simp (disch := omega) only [lit, tn_nI, z_inb, nI_add, pk_mul, z_le, z_nle, z_lt, z_nlt, z_ne, z_m1, pk_sub, xI_ss, xI_sd, xI_n, eq_self, true_and, and_true, and_self, not_true_eq_false, not_false_eq_true, false_implies, true_implies, implies_true, Classical.not_not, forall_const, true_or, or_true, false_or, or_false, false_and, and_false, if_true, if_false, ite_true, ite_false, reduceIte, reduceCtorEq]
    exact ⟨_, rfl, k h (Bx.rf A.1.1) A⟩
end FT
/-- facts unlike in two worlds -/
def ub (T : Nat → Nat → Int32) (v w : Nat) (n : Nat) : Int32 := bor (fun f => if fIn (mo T) v f = fIn (mo T) w f then 0 else bt f) n
def allB (T : Nat → Nat → Int32) : Int32 := (1 <<< (T 0 0 &&& 31)) - 1
noncomputable def sur (T : Nat → Nat → Int32) (q : Nat → Nat × Nat × Nat) (k : Nat) : Nat → Nat → Option Nat → Int32 → Int32
  | 0, _, _, b => b
  | j + 1, w, f, b => @ite _ (fit T q k w) (Classical.propDecidable _) (match f with
    | none => sur T q k j (w + 1) (some w) (allB T)
    | some v => sur T q k j (w + 1) (some v) (b &&& (ub T v w (tn (T 0 0)) ^^^ (-1)))) (sur T q k j (w + 1) f b)
theorem sur_1 {T : Nat → Nat → Int32} {q : Nat → Nat × Nat × Nat} {k j w : Nat} {f : Option Nat} {b : Int32} (h : fit T q k w) : sur T q k (j + 1) w f b = match f with
    | none => sur T q k j (w + 1) (some w) (allB T)
    | some v => sur T q k j (w + 1) (some v) (b &&& (ub T v w (tn (T 0 0)) ^^^ (-1))) := by
  conv => lhs; unfold sur
  exact if_pos h
theorem sur_0 {T : Nat → Nat → Int32} {q : Nat → Nat × Nat × Nat} {k j w : Nat} {f : Option Nat} {b : Int32} (h : ¬ fit T q k w) : sur T q k (j + 1) w f b = sur T q k j (w + 1) f b := by
  conv => lhs; unfold sur
  exact if_neg h
section SU
variable {T : Nat → Nat → Int32} {c n : Nat} {q : Nat → Nat × Nat × Nat} {h0 h : XH} {Q : Value → XH → Prop}
theorem l_ub {v w : Nat} (M : CM T c h) (hv : v < 2 ^ 31) (hw : w < 2 ^ 31) (kk : Q (.int (ub T v w (tn (T 0 0)))) h) : ∀ (j f : Nat), f + j = tn (T 0 0) → Ev 147 14 [.null, .int (nI v), .int (nI w), .ref c, .int (ub T v w f), .int (nI f)] [] h Q := by
  have f8 := M.f8
  have e0 : xI h c 0 = nI (tn (T 0 0)) := by rw [M.t0]; exact M.2.2.2.f
  intro j
  induction j with
  | zero =>
    intro f hj
    refine B_147_14 M.1 M.c2 ?_
    try simp (disch := omega) only [lit, tn_nI, z_inb, nI_add, pk_mul, z_le, z_nle, z_lt, z_nlt, z_ne, z_m1, pk_sub, xI_ss, xI_sd, xI_n, eq_self, true_and, and_true, and_self, not_true_eq_false, not_false_eq_true, false_implies, true_implies, implies_true, Classical.not_not, forall_const, true_or, or_true, false_or, or_false, false_and, and_false, if_true, if_false, ite_true, ite_false, reduceIte, reduceCtorEq, e0]
    rw [show f = tn (T 0 0) by omega]
    exact kk
  | succ j ih =>
    intro f hj
    have nx := ih (f + 1) (by omega)
    have eu : ub T v w (f + 1) = ub T v w f ||| (if fIn (mo T) v f = fIn (mo T) w f then 0 else bt f) := rfl
    have m3 := (mo_n M.2.2.2.n (f := f) (by omega)).2.2
    have i1 : fIn (mo T) v f ≤ mo T f := fIn_lt
    have i2 : fIn (mo T) w f ≤ mo T f := fIn_lt
    refine B_147_14 M.1 M.c2 ?_
    try simp (disch := omega) only [lit, tn_nI, z_inb, nI_add, pk_mul, z_le, z_nle, z_lt, z_nlt, z_ne, z_m1, pk_sub, xI_ss, xI_sd, xI_n, eq_self, true_and, and_true, and_self, not_true_eq_false, not_false_eq_true, false_implies, true_implies, implies_true, Classical.not_not, forall_const, true_or, or_true, false_or, or_false, false_and, and_false, if_true, if_false, ite_true, ite_false, reduceIte, reduceCtorEq, e0]
    refine c_fInC M (by omega) hv ⟨M.1, c_fInC M (by omega) hw ⟨M.1, ?_⟩⟩
    by_cases z : fIn (mo T) v f = fIn (mo T) w f
    · rw [eu, if_pos z, Int32.or_zero] at nx
      rw [z]
      try simp (disch := omega) only [lit, tn_nI, z_inb, nI_add, pk_mul, z_le, z_nle, z_lt, z_nlt, z_ne, z_m1, pk_sub, xI_ss, xI_sd, xI_n, eq_self, true_and, and_true, and_self, not_true_eq_false, not_false_eq_true, false_implies, true_implies, implies_true, Classical.not_not, forall_const, true_or, or_true, false_or, or_false, false_and, and_false, if_true, if_false, ite_true, ite_false, reduceIte, reduceCtorEq]
      exact nx
    · rw [eu, if_neg z] at nx
      try simp (disch := omega) only [lit, tn_nI, z_inb, nI_add, pk_mul, z_le, z_nle, z_lt, z_nlt, z_ne, z_m1, pk_sub, xI_ss, xI_sd, xI_n, eq_self, true_and, and_true, and_self, not_true_eq_false, not_false_eq_true, false_implies, true_implies, implies_true, Classical.not_not, forall_const, true_or, or_true, false_or, or_false, false_and, and_false, if_true, if_false, ite_true, ite_false, reduceIte, reduceCtorEq]
      exact nx
theorem c_ub {v w : Nat} {K : Int32 → XH → Prop} (M : CM T c h) (hv : v < 2 ^ 31) (hw : w < 2 ^ 31) (k : K (ub T v w (tn (T 0 0))) h) : ClI 147 [.ref 58, .int (nI v), .int (nI w)] h K := by
  refine B_147_0 M.1 ?_
  rw [M.2.1]
  exact l_ub M hv hw ⟨_, rfl, k⟩ (tn (T 0 0)) 0 (by omega)
theorem ub_self {w : Nat} : ∀ m, ub T w w m = 0 := by
  intro m
  unfold ub
  rw [bor_c (g := fun _ => 0) m (fun i _ => if_pos rfl), bor_0]
/-- the first one that fits, as the class has it -/
def fsW (f : Option Nat) : Int32 := match f with
  | none => -1
  | some v => nI v
theorem l_csure {k : Nat} (A : CG T c n q h) (hk : k ≤ n) (kn : KN T q k h) (kk : Q (.int (sur T q k (wN T) 0 none 0)) h) : ∀ (j w : Nat) (f : Option Nat) (b : Int32), w + j = wN T → (∀ v, f = some v → v < wN T) → sur T q k (wN T) 0 none 0 = sur T q k j w f b → Ev 146 16 [.ref 58, .int (nI k), .ref c, .int (fsW f), .int b, .int (nI w)] [] h Q := by
  have W2 : wN T ≤ 2000 := A.1.2.2.2.w.1
  have e6 : xI h c 6 = nI (wN T) := by rw [A.1.t0]; exact A.1.2.2.2.w.2.1
  have hs := A.1.1
  have M := A.1
  intro j
  induction j with
  | zero =>
    intro w f b hj hf e
    refine B_146_16 hs M.c2 ?_
    try simp (disch := omega) only [lit, tn_nI, z_inb, nI_add, pk_mul, z_le, z_nle, z_lt, z_nlt, z_ne, z_m1, pk_sub, xI_ss, xI_sd, xI_n, eq_self, true_and, and_true, and_self, not_true_eq_false, not_false_eq_true, false_implies, true_implies, implies_true, Classical.not_not, forall_const, true_or, or_true, false_or, or_false, false_and, and_false, if_true, if_false, ite_true, ite_false, reduceIte, reduceCtorEq, e6]
    have e : sur T q k (wN T) 0 none 0 = b := e
    rw [e] at kk
    exact kk
  | succ j ih =>
    intro w f b hj hf e
    refine B_146_16 hs M.c2 ?_
    rw [e6, nI_1]
    refine ⟨fun z => absurd z (nI_ge (by omega) (by omega)), fun _ => ?_⟩
    refine c_fit A hk kn (by omega) (fun z => ⟨hs, fun y => absurd y (by decide), fun _ => ?_⟩) (fun z => ⟨hs, fun _ => ?_, fun y => absurd rfl y⟩)
    · rw [sur_1 z] at e
      cases f with
      | none =>
        refine ⟨fun y => absurd y (by decide), fun _ => ?_⟩
        refine c_ub M (by omega) (by omega) ⟨hs, ?_⟩
        rw [ub_self, show xI h c 0 = T 0 0 by rw [M.t0]]
        rw [show ((0 : Int32) ^^^ (-1)) = -1 from by decide, Int32.and_neg_one]
        exact ih (w + 1) (some w) _ (by omega) (fun v hv => by cases hv; omega) e
      | some v =>
        have hv := hf v rfl
        refine ⟨fun _ => ?_, fun y => absurd (nI_pos' (by omega)) y⟩
        refine c_ub M (by omega) (by omega) ⟨hs, ?_⟩
        exact ih (w + 1) (some v) _ (by omega) hf e
    · rw [sur_0 z] at e
      exact ih (w + 1) f b (by omega) hf e
theorem c_cSure {x : Int32} {K : Int32 → XH → Prop} (A : CG T c n q h) (k : ∀ h1, Bx h h1 → CG T c n q h1 → K (opN x (n + 1) (-1) (fun k => sur T q k (wN T) 0 none 0)) h1) : ClI 145 [.ref 4, .int x] h K := by
  have n20 := A.2.2.2.1
  refine B_145_0 A.1.1 (c_known A (fun j hj e => ⟨A.1.1, ?_⟩) (fun e => ⟨A.1.1, ?_⟩))
  · subst e
    rw [opN_1 hj (by omega)] at k
    try simp (disch := omega) only [lit, tn_nI, z_inb, nI_add, pk_mul, z_le, z_nle, z_lt, z_nlt, z_ne, z_m1, pk_sub, xI_ss, xI_sd, xI_n, eq_self, true_and, and_true, and_self, not_true_eq_false, not_false_eq_true, false_implies, true_implies, implies_true, Classical.not_not, forall_const, true_or, or_true, false_or, or_false, false_and, and_false, if_true, if_false, ite_true, ite_false, reduceIte, reduceCtorEq]
    refine c_toK A (by omega) (fun h1 b A1 kn => ?_)
    refine B_146_0 A1.1.1 ?_
    rw [A1.1.2.1]
    exact l_csure A1 (by omega) kn ⟨_, rfl, A1.1.1, _, rfl, k h1 b A1⟩ (wN T) 0 none 0 (by omega) (fun v e => by cases e) rfl
  · rw [opN_0 e] at k
    try simp (disch := omega) only [lit, tn_nI, z_inb, nI_add, pk_mul, z_le, z_nle, z_lt, z_nlt, z_ne, z_m1, pk_sub, xI_ss, xI_sd, xI_n, eq_self, true_and, and_true, and_self, not_true_eq_false, not_false_eq_true, false_implies, true_implies, implies_true, Classical.not_not, forall_const, true_or, or_true, false_or, or_false, false_and, and_false, if_true, if_false, ite_true, ite_false, reduceIte, reduceCtorEq]
    exact ⟨_, rfl, k h (Bx.rf A.1.1) A⟩
end SU

/-! THE CLASS: changed, again, hopes -/
/-- CHANGED behind n days -/
def aChg (T : Nat → Nat → Int32) (r : Nat → Int32) (n : Nat) : Int32 := bor (fun p => if dN T (T 0 3) n r (8 + p) = r (8 + p) then 0 else bt p) (tn (T 0 1))
/-- the first of m from i on -/
def fstI (P : Nat → Prop) [DecidablePred P] : Nat → Nat → Option Nat
  | 0, _ => none
  | m + 1, i => if P i then some i else fstI P m (i + 1)
/-- facts and shades behind i and j days are the same -/
def stE (T : Nat → Nat → Int32) (r : Nat → Int32) (j i : Nat) : Prop := num (rdg (dN T (T 0 3) i r)) 6 = num (rdg (dN T (T 0 3) j r)) 6 ∧ wNow T (dN T (T 0 3) i r) = wNow T (dN T (T 0 3) j r)
def aFst (T : Nat → Nat → Int32) (r : Nat → Int32) (j : Nat) : Nat → Nat → Option Nat
  | 0, _ => none
  | m + 1, i => if num (rdg (dN T (T 0 3) i r)) 6 = num (rdg (dN T (T 0 3) j r)) 6 ∧ wNow T (dN T (T 0 3) i r) = wNow T (dN T (T 0 3) j r) then some i else aFst T r j m (i + 1)
theorem aFst_s {T : Nat → Nat → Int32} {r : Nat → Int32} {j m i : Nat} : aFst T r j (m + 1) i = if num (rdg (dN T (T 0 3) i r)) 6 = num (rdg (dN T (T 0 3) j r)) 6 ∧ wNow T (dN T (T 0 3) i r) = wNow T (dN T (T 0 3) j r) then some i else aFst T r j m (i + 1) := rfl
/-- ROUND AGAIN -/
def aAgain (T : Nat → Nat → Int32) (r : Nat → Int32) (what : Nat) : Nat → Nat → Int32
  | 0, _ => -2
  | k + 1, j => match aFst T r j j 0 with
    | some i => if what = 0 then nI j else nI i
    | none => aAgain T r what k (j + 1)
def cnt (f : Nat → Bool) : Nat → Nat
  | 0 => 0
  | n + 1 => if f n then cnt f n + 1 else cnt f n
theorem cnt_le {f : Nat → Bool} : ∀ n, cnt f n ≤ n := by
  intro n
  induction n with
  | zero => exact Nat.le_refl _
  | succ n ih => unfold cnt; split <;> omega
theorem cnt_all {f : Nat → Bool} : ∀ n, (∀ i, i < n → f i = true) → cnt f n = n := by
  intro n
  induction n with
  | zero => intro _; rfl
  | succ n ih => intro h; unfold cnt; rw [if_pos (h n (by omega)), ih (fun i hi => h i (by omega))]
theorem cnt_no {f : Nat → Bool} : ∀ n, (∀ i, i < n → f i = false) → cnt f n = 0 := by
  intro n
  induction n with
  | zero => intro _; rfl
  | succ n ih => intro h; unfold cnt; rw [if_neg (by rw [h n (by omega)]; decide), ih (fun i hi => h i (by omega))]
/-- HOPES -/
def aHope (T : Nat → Nat → Int32) (r : Nat → Int32) (p n : Nat) (k : Nat) : Bool := decide (dN T (T 0 3 + nI k) n r (8 + p) = nI 4)
theorem sl_seed {T : Nat → Nat → Int32} {s s' : Int32} {fr : Nat → Int32} (h : T 0 2 = 0) : ∀ k f r, sl T s fr k f r = sl T s' fr k f r := by
  intro k
  induction k with
  | zero => intro f r; rfl
  | succ k ih =>
    intro f r
    unfold sl
    have e : ∀ z, slv T z (r 14) (fr f) f = fr f := fun z => by unfold slv; rw [h, if_pos (by decide)]
    rw [e, e, ih]
theorem dayS_seed {T : Nat → Nat → Int32} {s s' : Int32} {r : Nat → Int32} (h : T 0 2 = 0) : dayS T s r = dayS T s' r := by
  unfold dayS dayR
  rw [sl_seed (s' := s') h]
theorem dN_seed {T : Nat → Nat → Int32} {s s' : Int32} (h : T 0 2 = 0) : ∀ n r, dN T s n r = dN T s' n r := by
  intro n
  induction n with
  | zero => intro r; rfl
  | succ n ih => intro r; unfold dN; rw [dayS_seed (s' := s') h, ih]
theorem ar_55 {h : XH} (hs : Sh h) : Ar h 55 20 := ⟨sk_55 hs, sn_55 hs, by decide⟩
section CB
variable {T : Nat → Nat → Int32} {c : Nat} {h0 h : XH} {r : Nat → Int32} {Q : Value → XH → Prop} {n p : Nat}
theorem l_cchg (A : CA T c r h) (kk : Q (.int (aChg T r n)) h) : ∀ (k p : Nat), p + k = tn (T 0 1) → Ev 108 27 [.ref 4, .null, .int (nI (num (rdg (dN T (T 0 3) n r)) 6)), .int (bor (fun p => if dN T (T 0 3) n r (8 + p) = r (8 + p) then 0 else bt p) p), .int (nI p)] [] h Q := by
  have p6 := A.1.p6
  have e1 : xI h (xR h 34 0) 1 = nI (tn (T 0 1)) := by rw [A.1.2.1, A.1.t0]; exact A.1.2.2.2.p
  have hsh := (rOk_dN A.1.2.2.2 (seed := T 0 3) n r A.2.2.1).1
  have hlt := num_r6 hsh
  intro k
  induction k with
  | zero =>
    intro p hk
    refine B_108_27 A.1.1 ?_
    try simp (disch := omega) only [lit, tn_nI, z_inb, nI_add, pk_mul, z_le, z_nle, z_lt, z_nlt, z_ne, z_m1, pk_sub, xI_ss, xI_sd, xI_n, eq_self, true_and, and_true, and_self, not_true_eq_false, not_false_eq_true, false_implies, true_implies, implies_true, Classical.not_not, forall_const, true_or, or_true, false_or, or_false, false_and, and_false, if_true, if_false, ite_true, ite_false, reduceIte, reduceCtorEq, e1]
    rw [show p = tn (T 0 1) by omega]
    exact kk
  | succ k ih =>
    intro p hk
    have e2 : xI h 39 (8 + p) = r (8 + p) := A.2.1 (8 + p) (by omega)
    refine B_108_27 A.1.1 ?_
    try simp (disch := omega) only [lit, tn_nI, z_inb, nI_add, pk_mul, z_le, z_nle, z_lt, z_nlt, z_ne, z_m1, pk_sub, xI_ss, xI_sd, xI_n, eq_self, true_and, and_true, and_self, not_true_eq_false, not_false_eq_true, false_implies, true_implies, implies_true, Classical.not_not, forall_const, true_or, or_true, false_or, or_false, false_and, and_false, if_true, if_false, ite_true, ite_false, reduceIte, reduceCtorEq, e1]
    refine c_sIn A.1.1 (by omega) (by omega) ⟨A.1.1, ?_⟩
    rw [dig_r hsh (by omega)]
    try simp (disch := omega) only [lit, tn_nI, z_inb, nI_add, pk_mul, z_le, z_nle, z_lt, z_nlt, z_ne, z_m1, pk_sub, xI_ss, xI_sd, xI_n, eq_self, true_and, and_true, and_self, not_true_eq_false, not_false_eq_true, false_implies, true_implies, implies_true, Classical.not_not, forall_const, true_or, or_true, false_or, or_false, false_and, and_false, if_true, if_false, ite_true, ite_false, reduceIte, reduceCtorEq, e2]
    have nx := ih (p + 1) (by omega)
    have eb : bor (fun p => if dN T (T 0 3) n r (8 + p) = r (8 + p) then 0 else bt p) (p + 1) = bor (fun p => if dN T (T 0 3) n r (8 + p) = r (8 + p) then 0 else bt p) p ||| (if dN T (T 0 3) n r (8 + p) = r (8 + p) then 0 else bt p) := rfl
    refine ⟨fun z => ?_, fun z => ?_⟩
    · rw [eb, if_pos z, Int32.or_zero] at nx; exact nx
    · rw [eb, if_neg z] at nx; exact nx
theorem c_cChg {x : Int32} {K : Int32 → XH → Prop} (A : CA T c r h) (k : ∀ h1, Fx SA h h1 → CA T c r h1 → K (opN x 301 (-1) (fun n => aChg T r n)) h1) : ClI 108 [.ref 4, .int x] h K := by
  refine B_108_0 A.1.1 (c_isAhead A.1.1 (fun n hn e => ⟨A.1.1, ?_⟩) (fun q => ⟨A.1.1, ?_⟩))
  · subst e
    rw [opN_1 hn (by omega)] at k
    try simp (disch := omega) only [lit, tn_nI, z_inb, nI_add, pk_mul, z_le, z_nle, z_lt, z_nlt, z_ne, z_m1, pk_sub, xI_ss, xI_sd, xI_n, eq_self, true_and, and_true, and_self, not_true_eq_false, not_false_eq_true, false_implies, true_implies, implies_true, Classical.not_not, forall_const, true_or, or_true, false_or, or_false, false_and, and_false, if_true, if_false, ite_true, ite_false, reduceIte, reduceCtorEq]
    refine c_shadesAt A.1 A.2.1 A.2.2.1 A.2.2.2 (by omega) (fun h1 m f a hm => ?_)
    have A1 := A.nx f (Or.inr ⟨m, a⟩)
    exact ⟨A1.1.1, l_cchg A1 ⟨_, rfl, k h1 f A1⟩ (tn (T 0 1)) 0 (by omega)⟩
  · rw [opN_0 q] at k
    try simp (disch := omega) only [lit, tn_nI, z_inb, nI_add, pk_mul, z_le, z_nle, z_lt, z_nlt, z_ne, z_m1, pk_sub, xI_ss, xI_sd, xI_n, eq_self, true_and, and_true, and_self, not_true_eq_false, not_false_eq_true, false_implies, true_implies, implies_true, Classical.not_not, forall_const, true_or, or_true, false_or, or_false, false_and, and_false, if_true, if_false, ite_true, ite_false, reduceIte, reduceCtorEq]
    exact ⟨_, rfl, k h Fx.rf A⟩
theorem l_fas {d m : Nat} (hs : Sh h) (t : tA T) (hro : rOk T r) (A : AOn T r h m) (hd : d ≤ m) (kk : (∀ i, aFst T r d d 0 = some i → Q (.int (nI i)) h) ∧ (aFst T r d d 0 = none → Q (.int (-1)) h)) : ∀ (k i : Nat), i + k = d → aFst T r d d 0 = aFst T r d k i → Ev 124 2 [.ref 53, .int (nI d), .int (nI i)] [] h Q := by
  have m3 := A.1
  have eM := A.2.1
  have n6 : ∀ j, num (rdg (dN T (T 0 3) j r)) 6 < 2 ^ 31 := fun j => by have := num_r6 (rOk_dN t (seed := T 0 3) j r hro).1; omega
  have wl : ∀ j, wNow T (dN T (T 0 3) j r) < 2 ^ 31 := fun j => by
    have h1 := wNow_lt t.n (rOk_dN t (seed := T 0 3) j r hro)
    have h2 : wN T ≤ 2000 := t.w.1
    omega
  intro k
  induction k with
  | zero =>
    intro i hk e
    refine B_124_2 hs ?_
    try simp (disch := omega) only [lit, tn_nI, z_inb, nI_add, pk_mul, z_le, z_nle, z_lt, z_nlt, z_ne, z_m1, pk_sub, xI_ss, xI_sd, xI_n, eq_self, true_and, and_true, and_self, not_true_eq_false, not_false_eq_true, false_implies, true_implies, implies_true, Classical.not_not, forall_const, true_or, or_true, false_or, or_false, false_and, and_false, if_true, if_false, ite_true, ite_false, reduceIte, reduceCtorEq]
    exact kk.2 e
  | succ k ih =>
    intro i hk e
    obtain ⟨i6, i7⟩ := A.2.2.2 i (by omega)
    obtain ⟨d6, d7⟩ := A.2.2.2 d hd
    refine B_124_2 hs ?_
    try simp (disch := omega) only [lit, tn_nI, z_inb, nI_add, pk_mul, z_le, z_nle, z_lt, z_nlt, z_ne, z_m1, pk_sub, xI_ss, xI_sd, xI_n, eq_self, true_and, and_true, and_self, not_true_eq_false, not_false_eq_true, false_implies, true_implies, implies_true, Classical.not_not, forall_const, true_or, or_true, false_or, or_false, false_and, and_false, if_true, if_false, ite_true, ite_false, reduceIte, reduceCtorEq, eM, i6, i7, d6, d7]
    rw [aFst_s] at e
    by_cases q1 : num (rdg (dN T (T 0 3) i r)) 6 = num (rdg (dN T (T 0 3) d r)) 6
    · by_cases q2 : wNow T (dN T (T 0 3) i r) = wNow T (dN T (T 0 3) d r)
      · rw [if_pos ⟨q1, q2⟩] at e
        rw [q1, q2]
        try simp (disch := omega) only [lit, tn_nI, z_inb, nI_add, pk_mul, z_le, z_nle, z_lt, z_nlt, z_ne, z_m1, pk_sub, xI_ss, xI_sd, xI_n, eq_self, true_and, and_true, and_self, not_true_eq_false, not_false_eq_true, false_implies, true_implies, implies_true, Classical.not_not, forall_const, true_or, or_true, false_or, or_false, false_and, and_false, if_true, if_false, ite_true, ite_false, reduceIte, reduceCtorEq]
        exact kk.1 i e
      · rw [if_neg (fun z => q2 z.2)] at e
        have z2 : ¬ nI (wNow T (dN T (T 0 3) i r)) = nI (wNow T (dN T (T 0 3) d r)) := fun z => q2 ((nI_eq (wl i) (wl d)).mp z)
        rw [q1]
        try simp (disch := omega) only [lit, tn_nI, z_inb, nI_add, pk_mul, z_le, z_nle, z_lt, z_nlt, z_ne, z_m1, pk_sub, xI_ss, xI_sd, xI_n, eq_self, true_and, and_true, and_self, not_true_eq_false, not_false_eq_true, false_implies, true_implies, implies_true, Classical.not_not, forall_const, true_or, or_true, false_or, or_false, false_and, and_false, if_true, if_false, ite_true, ite_false, reduceIte, reduceCtorEq, z2]
        exact ih (i + 1) (by omega) e
    · rw [if_neg (fun z => q1 z.1)] at e
      have z1 : ¬ nI (num (rdg (dN T (T 0 3) i r)) 6) = nI (num (rdg (dN T (T 0 3) d r)) 6) := fun z => q1 ((nI_eq (n6 i) (n6 d)).mp z)
      try simp (disch := omega) only [lit, tn_nI, z_inb, nI_add, pk_mul, z_le, z_nle, z_lt, z_nlt, z_ne, z_m1, pk_sub, xI_ss, xI_sd, xI_n, eq_self, true_and, and_true, and_self, not_true_eq_false, not_false_eq_true, false_implies, true_implies, implies_true, Classical.not_not, forall_const, true_or, or_true, false_or, or_false, false_and, and_false, if_true, if_false, ite_true, ite_false, reduceIte, reduceCtorEq, z1]
      exact ih (i + 1) (by omega) e
theorem aFst_lt {d : Nat} : ∀ k i j, aFst T r d k i = some j → j < i + k := by
  intro k
  induction k with
  | zero => intro i j h; cases h
  | succ k ih =>
    intro i j h
    unfold aFst at h
    split at h
    · cases h; omega
    · have := ih (i + 1) j h; omega
theorem l_cagain {w : Nat} (hw : w < 2) (A : CA T c r h0) : ∀ (k d : Nat) (h : XH), d + k = 301 → Fx SA h0 h → CA T c r h → (∀ h1, Fx SA h0 h1 → CA T c r h1 → Q (.int (aAgain T r w k d)) h1) → Ev 123 11 [.ref 4, .int (nI w), .int (nI d), .null] [] h Q := by
  intro k
  induction k with
  | zero =>
    intro d h hk f A kk
    refine B_123_11 A.1.1 ?_
    try simp (disch := omega) only [lit, tn_nI, z_inb, nI_add, pk_mul, z_le, z_nle, z_lt, z_nlt, z_ne, z_m1, pk_sub, xI_ss, xI_sd, xI_n, eq_self, true_and, and_true, and_self, not_true_eq_false, not_false_eq_true, false_implies, true_implies, implies_true, Classical.not_not, forall_const, true_or, or_true, false_or, or_false, false_and, and_false, if_true, if_false, ite_true, ite_false, reduceIte, reduceCtorEq]
    exact kk h f A
  | succ k ih =>
    intro d h hk f A kk
    refine B_123_11 A.1.1 ?_
    try simp (disch := omega) only [lit, tn_nI, z_inb, nI_add, pk_mul, z_le, z_nle, z_lt, z_nlt, z_ne, z_m1, pk_sub, xI_ss, xI_sd, xI_n, eq_self, true_and, and_true, and_self, not_true_eq_false, not_false_eq_true, false_implies, true_implies, implies_true, Classical.not_not, forall_const, true_or, or_true, false_or, or_false, false_and, and_false, if_true, if_false, ite_true, ite_false, reduceIte, reduceCtorEq]
    refine c_shadesAt A.1 A.2.1 A.2.2.1 A.2.2.2 (by omega) (fun h1 m f1 a hm => ?_)
    have A1 := A.nx f1 (Or.inr ⟨m, a⟩)
    refine ⟨A1.1.1, ?_⟩
    refine B_124_0 A1.1.1 (l_fas A1.1.1 A1.1.2.2.2 A.2.2.1 a hm ⟨fun i e => ⟨_, rfl, A1.1.1, ?_⟩, fun e => ⟨_, rfl, A1.1.1, ?_⟩⟩ d 0 (by omega) rfl)
    · have hi := aFst_lt _ _ _ e
      have k1 := kk h1 (f.tr f1) A1
      unfold aAgain at k1
      rw [e] at k1
      dsimp only at k1
      rcases (show w = 0 ∨ w = 1 by omega) with q | q
      · subst q
        try simp (disch := omega) only [lit, tn_nI, z_inb, nI_add, pk_mul, z_le, z_nle, z_lt, z_nlt, z_ne, z_m1, pk_sub, xI_ss, xI_sd, xI_n, eq_self, true_and, and_true, and_self, not_true_eq_false, not_false_eq_true, false_implies, true_implies, implies_true, Classical.not_not, forall_const, true_or, or_true, false_or, or_false, false_and, and_false, if_true, if_false, ite_true, ite_false, reduceIte, reduceCtorEq]
        exact k1
      · subst q
        try simp (disch := omega) only [lit, tn_nI, z_inb, nI_add, pk_mul, z_le, z_nle, z_lt, z_nlt, z_ne, z_m1, pk_sub, xI_ss, xI_sd, xI_n, eq_self, true_and, and_true, and_self, not_true_eq_false, not_false_eq_true, false_implies, true_implies, implies_true, Classical.not_not, forall_const, true_or, or_true, false_or, or_false, false_and, and_false, if_true, if_false, ite_true, ite_false, reduceIte, reduceCtorEq]
        exact k1
    · refine ⟨fun _ => ?_, fun z => absurd (by decide) z⟩
      refine ih (d + 1) h1 (by omega) (f.tr f1) A1 (fun h2 f2 A2 => ?_)
      have k1 := kk h2 f2 A2
      unfold aAgain at k1
      rw [e] at k1
      exact k1
theorem c_cAgain {x : Int32} {K : Int32 → XH → Prop} (A : CA T c r h) (k : ∀ h1, Fx SA h h1 → CA T c r h1 → K (opN x 2 (-1) (fun w => aAgain T r w 300 1)) h1) : ClI 123 [.ref 4, .int x] h K := by
  refine B_123_0 A.1.1 (c_oneTwo A.1.1 (fun w hw e => ⟨A.1.1, ?_⟩) (fun q => ⟨A.1.1, ?_⟩))
  · subst e
    rw [opN_1 hw (by omega)] at k
    try simp (disch := omega) only [lit, tn_nI, z_inb, nI_add, pk_mul, z_le, z_nle, z_lt, z_nlt, z_ne, z_m1, pk_sub, xI_ss, xI_sd, xI_n, eq_self, true_and, and_true, and_self, not_true_eq_false, not_false_eq_true, false_implies, true_implies, implies_true, Classical.not_not, forall_const, true_or, or_true, false_or, or_false, false_and, and_false, if_true, if_false, ite_true, ite_false, reduceIte, reduceCtorEq]
    exact l_cagain hw A 300 1 h (by decide) Fx.rf A (fun h1 f A1 => ⟨_, rfl, k h1 f A1⟩)
  · rw [opN_0 q] at k
    try simp (disch := omega) only [lit, tn_nI, z_inb, nI_add, pk_mul, z_le, z_nle, z_lt, z_nlt, z_ne, z_m1, pk_sub, xI_ss, xI_sd, xI_n, eq_self, true_and, and_true, and_self, not_true_eq_false, not_false_eq_true, false_implies, true_implies, implies_true, Classical.not_not, forall_const, true_or, or_true, false_or, or_false, false_and, and_false, if_true, if_false, ite_true, ite_false, reduceIte, reduceCtorEq]
    exact ⟨_, rfl, k h Fx.rf A⟩
abbrev SB : List Nat := [34, 35, 36, 37, 38, 53, 54, 55, 56, 57]
theorem CA.nxB (A : CA T c r h0) (f : Fx SB h0 h) (a : AOk T r h) : CA T c r h := ⟨A.1.fx f (by decide), by rw [f.at (by decide)]; exact A.2.1, A.2.2.1, a⟩
theorem AOk.fx {S : List Nat} (a : AOk T r h0) (f : Fx S h0 h) (hS : 53 ∉ S ∧ 54 ∉ S ∧ 56 ∉ S ∧ 57 ∉ S) : AOk T r h := by
  unfold AOk AOn at a ⊢
  rw [f.at hS.1, f.at hS.2.1, f.at hS.2.2.1, f.at hS.2.2.2]
  exact a
abbrev SC : List Nat := [34, 35, 36, 37, 38, 55]
theorem l_ch1 {s k : Nat} {m : Nat} (M : CM T c h0) (hn : n ≤ 100) (hp : p < tn (T 0 1)) (kk : ∀ h1, Fx SC h0 h1 → EqR (xI h1 55) (dN T (T 0 3 + nI k) n r) → Ev 136 62 [.ref 53, .int (nI p), .int (nI n), .int (nI s), .ref 39, .int (nI m), .int (nI k), .int (nI n)] [] h1 Q) :
    ∀ (j d : Nat) (h : XH), d + j = n → Fx SC h0 h → EqR (xI h 55) (dN T (T 0 3 + nI k) d r) → Ev 136 62 [.ref 53, .int (nI p), .int (nI n), .int (nI s), .ref 39, .int (nI m), .int (nI k), .int (nI d)] [] h Q := by
  intro j
  induction j with
  | zero => intro d h hj f e; rw [show d = n by omega] at e ⊢; exact kk h f e
  | succ j ih =>
    intro d h hj f e
    have M' := M.fx f (by decide)
    have e3 : xI h (xR h 34 0) 3 = T 0 3 := by rw [M'.2.1, M'.t0]
    refine B_136_62 M'.1 ?_
    try simp (disch := omega) only [lit, tn_nI, z_inb, nI_add, pk_mul, z_le, z_nle, z_lt, z_nlt, z_ne, z_m1, pk_sub, xI_ss, xI_sd, xI_n, eq_self, true_and, and_true, and_self, not_true_eq_false, not_false_eq_true, false_implies, true_implies, implies_true, Classical.not_not, forall_const, true_or, or_true, false_or, or_false, false_and, and_false, if_true, if_false, ite_true, ite_false, reduceIte, reduceCtorEq, e3]
    refine c_dayC M' (ar_55 M'.1) (by decide) e (fun h1 f1 e1 => ⟨(M'.fx f1 (by decide)).1, ?_⟩)
    rw [← dN_s] at e1
    exact ih (d + 1) h1 (by omega) (f.trm f1 (by decide) (by decide)) e1
theorem l_ch2 {s : Nat} (A : CA T c r h0) (hs20 : s ≤ 20) (hn : n ≤ 100) (hp : p < tn (T 0 1)) (kk : ∀ h1, Fx SC h0 h1 → Q (.int (nI (cnt (aHope T r p n) s))) h1) :
    ∀ (j k : Nat) (h : XH), k + j = s → Fx SC h0 h → Ev 136 40 [.ref 53, .int (nI p), .int (nI n), .int (nI s), .ref 39, .int (nI (cnt (aHope T r p n) k)), .int (nI k), .null] [] h Q := by
  have p6 := A.1.p6
  intro j
  induction j with
  | zero =>
    intro k h hj f
    refine B_136_40 (A.1.fx f (by decide)).1 ?_
    try simp (disch := omega) only [lit, tn_nI, z_inb, nI_add, pk_mul, z_le, z_nle, z_lt, z_nlt, z_ne, z_m1, pk_sub, xI_ss, xI_sd, xI_n, eq_self, true_and, and_true, and_self, not_true_eq_false, not_false_eq_true, false_implies, true_implies, implies_true, Classical.not_not, forall_const, true_or, or_true, false_or, or_false, false_and, and_false, if_true, if_false, ite_true, ite_false, reduceIte, reduceCtorEq]
    rw [show k = s by omega]
    exact kk h f
  | succ j ih =>
    intro k h hj f
    have M' := A.1.fx f (by decide)
    refine B_136_40 M'.1 ?_
    try simp (disch := omega) only [lit, tn_nI, z_inb, nI_add, pk_mul, z_le, z_nle, z_lt, z_nlt, z_ne, z_m1, pk_sub, xI_ss, xI_sd, xI_n, eq_self, true_and, and_true, and_self, not_true_eq_false, not_false_eq_true, false_implies, true_implies, implies_true, Classical.not_not, forall_const, true_or, or_true, false_or, or_false, false_and, and_false, if_true, if_false, ite_true, ite_false, reduceIte, reduceCtorEq]
    refine ⟨by decide, ?_⟩
    have f1 : Fx SC h0 (xsA h 55 (va_cpy (xI h 39) (xI h 55) 0 0 20)) := f.setA (by decide)
    have e1 : EqR (xI (xsA h 55 (va_cpy (xI h 39) (xI h 55) 0 0 20)) 55) (dN T (T 0 3 + nI k) 0 r) := by
      rw [xI_A]
      refine cpy_eq.tr ?_
      rw [f.at (by decide)]
      exact A.2.1
    generalize xsA h 55 (va_cpy (xI h 39) (xI h 55) 0 0 20) = h1 at f1 e1 ⊢
    refine l_ch1 (A.1.fx f1 (by decide)) hn hp (fun h2 f2 e2 => ?_) n 0 h1 (by omega) Fx.rf e1
    have f3 : Fx SC h0 h2 := f1.tr f2
    have M2 := A.1.fx f3 (by decide)
    have e55 : xI h2 55 (8 + p) = dN T (T 0 3 + nI k) n r (8 + p) := e2 (8 + p) (by omega)
    have hc := cnt_le (f := aHope T r p n) k
    refine B_136_62 M2.1 ?_
    try simp (disch := omega) only [lit, tn_nI, z_inb, nI_add, pk_mul, z_le, z_nle, z_lt, z_nlt, z_ne, z_m1, pk_sub, xI_ss, xI_sd, xI_n, eq_self, true_and, and_true, and_self, not_true_eq_false, not_false_eq_true, false_implies, true_implies, implies_true, Classical.not_not, forall_const, true_or, or_true, false_or, or_false, false_and, and_false, if_true, if_false, ite_true, ite_false, reduceIte, reduceCtorEq, e55]
    have nx := ih (k + 1) h2 (by omega) f3
    have eb : cnt (aHope T r p n) (k + 1) = if aHope T r p n k then cnt (aHope T r p n) k + 1 else cnt (aHope T r p n) k := rfl
    refine ⟨fun z => ?_, fun z => ?_⟩
    · rw [eb, if_neg (by unfold aHope; rw [decide_eq_false z]; decide)] at nx; exact nx
    · rw [eb, if_pos (by unfold aHope; exact decide_eq_true z)] at nx; exact nx
/-- HOPES, of any three numbers -/
def oHope (T : Nat → Nat → Int32) (r : Nat → Int32) (x y z : Int32) : Int32 := opN x (tn (T 0 1)) (-1) (fun p => opN y 101 (-1) (fun n => opN z 21 (-1) (fun s => if s = 0 then -1 else nI (cnt (aHope T r p n) s))))
theorem c_cHope {x y z : Int32} {K : Int32 → XH → Prop} (A : CA T c r h) (k : ∀ h1, Fx SB h h1 → CA T c r h1 → K (oHope T r x y z) h1) : ClI 135 [.ref 4, .int x, .int y, .int z] h K := by
  have p6 := A.1.p6
  unfold oHope at k
  refine B_135_0 A.1.1 (c_cPage A.1 (fun p hp e => ⟨A.1.1, ?_⟩) (fun q => ⟨A.1.1, ?_⟩))
  · subst e
    rw [opN_1 hp (by omega)] at k
    try simp (disch := omega) only [lit, tn_nI, z_inb, nI_add, pk_mul, z_le, z_nle, z_lt, z_nlt, z_ne, z_m1, pk_sub, xI_ss, xI_sd, xI_n, eq_self, true_and, and_true, and_self, not_true_eq_false, not_false_eq_true, false_implies, true_implies, implies_true, Classical.not_not, forall_const, true_or, or_true, false_or, or_false, false_and, and_false, if_true, if_false, ite_true, ite_false, reduceIte, reduceCtorEq]
    refine in_n (n := 101) (x := y) (by decide) (fun n hn e => ?_) (fun q => ?_)
    · subst e
      rw [opN_1 hn (by omega)] at k
      try simp (disch := omega) only [lit, tn_nI, z_inb, nI_add, pk_mul, z_le, z_nle, z_lt, z_nlt, z_ne, z_m1, pk_sub, xI_ss, xI_sd, xI_n, eq_self, true_and, and_true, and_self, not_true_eq_false, not_false_eq_true, false_implies, true_implies, implies_true, Classical.not_not, forall_const, true_or, or_true, false_or, or_false, false_and, and_false, if_true, if_false, ite_true, ite_false, reduceIte, reduceCtorEq]
      refine in_n (n := 21) (x := z) (by decide) (fun s hs e => ?_) (fun q => ?_)
      · subst e
        rw [opN_1 hs (by omega)] at k
        by_cases s0 : s = 0
        · rw [if_pos s0] at k
          subst s0
          try simp (disch := omega) only [lit, tn_nI, z_inb, nI_add, pk_mul, z_le, z_nle, z_lt, z_nlt, z_ne, z_m1, pk_sub, xI_ss, xI_sd, xI_n, eq_self, true_and, and_true, and_self, not_true_eq_false, not_false_eq_true, false_implies, true_implies, implies_true, Classical.not_not, forall_const, true_or, or_true, false_or, or_false, false_and, and_false, if_true, if_false, ite_true, ite_false, reduceIte, reduceCtorEq]
          exact ⟨_, rfl, k h Fx.rf A⟩
        · rw [if_neg s0] at k
          try simp (disch := omega) only [lit, tn_nI, z_inb, nI_add, pk_mul, z_le, z_nle, z_lt, z_nlt, z_ne, z_m1, pk_sub, xI_ss, xI_sd, xI_n, eq_self, true_and, and_true, and_self, not_true_eq_false, not_false_eq_true, false_implies, true_implies, implies_true, Classical.not_not, forall_const, true_or, or_true, false_or, or_false, false_and, and_false, if_true, if_false, ite_true, ite_false, reduceIte, reduceCtorEq]
          have e2 : xI h (xR h 34 0) 2 = T 0 2 := by rw [A.1.2.1, A.1.t0]
          refine B_136_0 A.1.1 ?_
          rw [e2]
          refine ⟨fun z2 => ?_, fun z2 => ?_⟩
          · refine l_ch2 A (by omega) (by omega) hp (fun h1 f1 => ⟨_, rfl, (A.1.fx f1 (by decide)).1, _, rfl, ?_⟩) s 0 h (by omega) Fx.rf
            exact k h1 (f1.mono (by decide)) (A.nxB (f1.mono (by decide)) (A.2.2.2.fx f1 (by decide)))
          · have z3 := Classical.not_not.mp z2
            refine c_shAt (x1 := 0) A (by omega) hp (fun h1 f1 A1 => ?_)
            have k1 := k h1 (f1.mono (by decide)) A1
            refine ⟨fun y => ⟨_, rfl, A1.1.1, _, rfl, ?_⟩, fun y => ⟨_, rfl, A1.1.1, _, rfl, ?_⟩⟩
            · rw [cnt_no _ (fun i _ => by unfold aHope; rw [dN_seed (s' := T 0 3) z3]; exact decide_eq_false y)] at k1
              exact k1
            · rw [cnt_all _ (fun i _ => by unfold aHope; rw [dN_seed (s' := T 0 3) z3]; exact decide_eq_true (Classical.not_not.mp y))] at k1
              exact k1
      · rw [opN_0 q] at k
        refine ⟨fun _ => ⟨_, rfl, k h Fx.rf A⟩, fun z1 => ⟨fun z2 => ?_, fun _ => ⟨_, rfl, k h Fx.rf A⟩⟩⟩
        rcases q with q | q
        · exact absurd (Int32.lt_trans q (by decide)) z1
        · exact absurd (Int32.le_trans q z2) (by decide)
    · rw [opN_0 q] at k
      refine ⟨fun _ => ⟨_, rfl, k h Fx.rf A⟩, fun z1 => ⟨fun _ => ⟨_, rfl, k h Fx.rf A⟩, fun z2 => ?_⟩⟩
      rcases q with q | q
      · exact absurd q z1
      · exact absurd ((gt_n (n := 100) z1 (by decide)).mpr q) z2
  · rw [opN_0 q] at k
    try simp (disch := omega) only [lit, tn_nI, z_inb, nI_add, pk_mul, z_le, z_nle, z_lt, z_nlt, z_ne, z_m1, pk_sub, xI_ss, xI_sd, xI_n, eq_self, true_and, and_true, and_self, not_true_eq_false, not_false_eq_true, false_implies, true_implies, implies_true, Classical.not_not, forall_const, true_or, or_true, false_or, or_false, false_and, and_false, if_true, if_false, ite_true, ite_false, reduceIte, reduceCtorEq]
    exact ⟨_, rfl, k h Fx.rf A⟩
end CB

/-! THE CLASS: what days bring -/
/-- one of the first n: by a; else z -/
def opN (x : Int32) (n : Nat) (z : Int32) (a : Nat → Int32) : Int32 := if x < 0 ∨ nI n ≤ x then z else a (tn x)
theorem opN_1 {j n : Nat} {z : Int32} {a : Nat → Int32} (hj : j < n) (hn : n < 2 ^ 31) : opN (nI j) n z a = a j := by
  unfold opN
  rw [if_neg (fun q => q.elim (nI_pos (by omega)) (nI_ge hj hn)), tn_nI (by omega)]
theorem opN_0 {x : Int32} {n : Nat} {z : Int32} {a : Nat → Int32} (h : x < 0 ∨ nI n ≤ x) : opN x n z a = z := if_pos h
theorem gt_n {x : Int32} {n : Nat} (h0 : ¬ x < 0) (hn : n + 1 < 2 ^ 31) : nI n < x ↔ nI (n + 1) ≤ x := by
  obtain ⟨j, hj, rfl⟩ := nI_of h0
  rw [nI_ltI (by omega) hj, nI_leI hn hj]
  omega
section CA
variable {T : Nat → Nat → Int32} {c : Nat} {h0 h : XH} {r : Nat → Int32} {Q : Value → XH → Prop} {n p : Nat}
theorem c_cPage {x : Int32} {K : Int32 → XH → Prop} (M : CM T c h) (k1 : ∀ j, j < tn (T 0 1) → x = nI j → K (nI 1) h) (k0 : (x < 0 ∨ nI (tn (T 0 1)) ≤ x) → K (nI 0) h) : ClI 72 [.ref 4, .int x] h K := by
  have e : xI h (xR h 34 0) 1 = nI (tn (T 0 1)) := by rw [M.2.1, M.t0]; exact M.2.2.2.p
  have p6 := M.p6
  refine c_isPage M.1 ?_
  rw [e]
  refine in_n (n := tn (T 0 1)) (x := x) (by omega) (fun j hj q => ?_) (fun q => ?_)
  · rw [if_neg (fun z => by
      subst q
      rcases z with z | z
      · exact nI_pos (by omega) z
      · exact nI_ge hj (by omega) z)]
    exact k1 j hj q
  · rw [if_pos q]; exact k0 q
theorem c_oneTwo {x : Int32} {K : Int32 → XH → Prop} (hs : Sh h) (k1 : ∀ j, j < 2 → x = nI j → K (nI 1) h) (k0 : (x < 0 ∨ nI 2 ≤ x) → K (nI 0) h) : ClI 98 [.int x] h K := by
  refine in_n (n := 2) (x := x) (by omega) (fun j hj q => ?_) (fun q => ?_)
  · have k := k1 j hj q
    rcases (show j = 0 ∨ j = 1 by omega) with e | e
    · rw [e] at q; exact B_98_0 hs ⟨fun _ => ⟨_, rfl, k⟩, fun z => absurd q z⟩
    · rw [e] at q; exact B_98_0 hs ⟨fun _ => ⟨_, rfl, k⟩, fun _ => ⟨fun z => absurd q z, fun _ => ⟨_, rfl, k⟩⟩⟩
  · refine B_98_0 hs ⟨fun z => ?_, fun _ => ⟨fun _ => ⟨_, rfl, k0 q⟩, fun z => ?_⟩⟩
    · subst z; exact absurd q (by decide)
    · have z := Classical.not_not.mp z; subst z; exact absurd q (by decide)
theorem c_isAhead {x : Int32} {K : Int32 → XH → Prop} (hs : Sh h) (k1 : ∀ j, j < 301 → x = nI j → K (nI 1) h) (k0 : (x < 0 ∨ nI 301 ≤ x) → K (nI 0) h) : ClI 107 [.int x] h K := by
  refine B_107_0 hs ⟨fun z => ⟨_, rfl, k0 (Or.inl z)⟩, fun z => ⟨fun y => ⟨_, rfl, k0 (Or.inr ((gt_n (n := 300) z (by decide)).mp y))⟩, fun y => ⟨_, rfl, ?_⟩⟩⟩
  exact in_n (n := 301) (x := x) (by decide) (fun j hj q => k1 j hj q) (fun q => q.elim (fun q => absurd q z) (fun q => absurd ((gt_n (n := 300) z (by decide)).mpr q) y))
theorem c_isBegun {x : Int32} {K : Int32 → XH → Prop} (hs : Sh h) (k1 : ∀ j, j < 31 → x = nI j → K (nI 1) h) (k0 : (x < 0 ∨ nI 31 ≤ x) → K (nI 0) h) : ClI 126 [.int x] h K := by
  refine B_126_0 hs ⟨fun z => ⟨_, rfl, k0 (Or.inl z)⟩, fun z => ⟨fun y => ⟨_, rfl, k0 (Or.inr ((gt_n (n := 30) z (by decide)).mp y))⟩, fun y => ⟨_, rfl, ?_⟩⟩⟩
  exact in_n (n := 31) (x := x) (by decide) (fun j hj q => k1 j hj q) (fun q => q.elim (fun q => absurd q z) (fun q => absurd ((gt_n (n := 30) z (by decide)).mpr q) y))
theorem c_sIn {a : Nat} {K : Int32 → XH → Prop} (hs : Sh h) (ha : a < 2 ^ 31) (hp : p < 7) (k : K (nI (a / 5 ^ p % 5)) h) : ClI 64 [.int (nI a), .int (nI p)] h K := by
  refine c_shadeIn hs hp ?_
  rw [shI_n ha hp]
  exact k
theorem dig_r {s : Nat → Int32} (hs : rSh T s) (hp : p < 6) : nI (num (rdg s) 6 / 5 ^ p % 5) = s (8 + p) := by
  rw [num_dig 6 p (fun q hq => (rdg_n hs hq).1) hp]
  exact (rdg_n hs hp).2.symm
/-- the days ahead, ready to be asked -/
def CA (T : Nat → Nat → Int32) (c : Nat) (r : Nat → Int32) (h : XH) : Prop := CM T c h ∧ EqR (xI h 39) r ∧ rOk T r ∧ AOk T r h
abbrev SA : List Nat := [34, 35, 36, 37, 38, 53, 54, 56, 57]
theorem CA.nx (A : CA T c r h0) (f : Fx SA h0 h) (a : AOk T r h) : CA T c r h := ⟨A.1.fx f (by decide), by rw [f.at (by decide)]; exact A.2.1, A.2.2.1, a⟩
/-- the shade of a page d days on -/
theorem c_shAt {d : Nat} {x1 : Int32} {K : Int32 → XH → Prop} (A : CA T c r h0) (hd : d ≤ 300) (hp : p < tn (T 0 1)) (k : ∀ h1, Fx SA h0 h1 → CA T c r h1 → K (dN T (T 0 3) d r (8 + p)) h1) : ClI 104 [.ref 53, .int (nI d), .ref 39] h0 (fun v h1 => Sh h1 ∧ ClI 64 [.int v, .int (nI p)] h1 (fun w h2 => Sh h2 ∧ K w h2)) := by
  have p6 := A.1.p6
  have hsh := (rOk_dN A.1.2.2.2 (seed := T 0 3) d r A.2.2.1).1
  refine c_shadesAt A.1 A.2.1 A.2.2.1 A.2.2.2 hd (fun h1 m f a hm => ?_)
  have A1 := A.nx f (Or.inr ⟨m, a⟩)
  refine ⟨A1.1.1, c_sIn A1.1.1 (by have := num_r6 hsh; omega) (by omega) ⟨A1.1.1, ?_⟩⟩
  rw [dig_r hsh (by omega)]
  exact k h1 f A1
theorem l_cwhen (A : CA T c r h0) (hp : p < tn (T 0 1)) : ∀ (k d : Nat) (h : XH), d + k = 301 → Fx SA h0 h → CA T c r h → (∀ h1, Fx SA h0 h1 → CA T c r h1 → Q (.int (aWhen T (T 0 3) p k d (dN T (T 0 3) d r))) h1) → Ev 103 12 [.ref 4, .int (nI p), .int (nI d)] [] h Q := by
  intro k
  induction k with
  | zero =>
    intro d h hk f A kk
    refine B_103_12 A.1.1 ?_
    try simp (disch := omega) only [lit, tn_nI, z_inb, nI_add, pk_mul, z_le, z_nle, z_lt, z_nlt, z_ne, z_m1, pk_sub, xI_ss, xI_sd, xI_n, eq_self, true_and, and_true, and_self, not_true_eq_false, not_false_eq_true, false_implies, true_implies, implies_true, Classical.not_not, forall_const, true_or, or_true, false_or, or_false, false_and, and_false, if_true, if_false, ite_true, ite_false, reduceIte, reduceCtorEq]
    exact kk h f A
  | succ k ih =>
    intro d h hk f A kk
    refine B_103_12 A.1.1 ?_
    try simp (disch := omega) only [lit, tn_nI, z_inb, nI_add, pk_mul, z_le, z_nle, z_lt, z_nlt, z_ne, z_m1, pk_sub, xI_ss, xI_sd, xI_n, eq_self, true_and, and_true, and_self, not_true_eq_false, not_false_eq_true, false_implies, true_implies, implies_true, Classical.not_not, forall_const, true_or, or_true, false_or, or_false, false_and, and_false, if_true, if_false, ite_true, ite_false, reduceIte, reduceCtorEq]
    unfold aWhen at kk
    rw [← dN_s] at kk
    refine c_shAt (x1 := 0) A (by omega) hp (fun h1 f1 A1 => ⟨fun z => ?_, fun z => ?_⟩)
    · rw [if_neg z] at kk
      exact ih (d + 1) h1 (by omega) (f.tr f1) A1 kk
    · rw [if_pos z] at kk
      exact kk h1 (f.tr f1) A1
theorem c_cWhen {x : Int32} {K : Int32 → XH → Prop} (A : CA T c r h) (k : ∀ h1, Fx SA h h1 → CA T c r h1 → K (opN x (tn (T 0 1)) (-1) (fun p => aWhen T (T 0 3) p 301 0 r)) h1) : ClI 103 [.ref 4, .int x] h K := by
  have p6 := A.1.p6
  refine B_103_0 A.1.1 (c_cPage A.1 (fun p hp e => ⟨A.1.1, ?_⟩) (fun q => ⟨A.1.1, ?_⟩))
  · subst e
    rw [opN_1 hp (by omega)] at k
    try simp (disch := omega) only [lit, tn_nI, z_inb, nI_add, pk_mul, z_le, z_nle, z_lt, z_nlt, z_ne, z_m1, pk_sub, xI_ss, xI_sd, xI_n, eq_self, true_and, and_true, and_self, not_true_eq_false, not_false_eq_true, false_implies, true_implies, implies_true, Classical.not_not, forall_const, true_or, or_true, false_or, or_false, false_and, and_false, if_true, if_false, ite_true, ite_false, reduceIte, reduceCtorEq]
    exact l_cwhen A hp 301 0 h (by decide) Fx.rf A (fun h1 f A1 => ⟨_, rfl, k h1 f A1⟩)
  · rw [opN_0 q] at k
    try simp (disch := omega) only [lit, tn_nI, z_inb, nI_add, pk_mul, z_le, z_nle, z_lt, z_nlt, z_ne, z_m1, pk_sub, xI_ss, xI_sd, xI_n, eq_self, true_and, and_true, and_self, not_true_eq_false, not_false_eq_true, false_implies, true_implies, implies_true, Classical.not_not, forall_const, true_or, or_true, false_or, or_false, false_and, and_false, if_true, if_false, ite_true, ite_false, reduceIte, reduceCtorEq]
    exact ⟨_, rfl, k h Fx.rf A⟩
theorem l_cstays (A : CA T c r h0) (hp : p < tn (T 0 1)) : ∀ (k d : Nat) (h : XH), d + k = 300 → Fx SA h0 h → CA T c r h → (∀ h1, Fx SA h0 h1 → CA T c r h1 → Q (.int (aStay T (T 0 3) p k d (dN T (T 0 3) d r))) h1) → Ev 105 12 [.ref 4, .int (nI p), .int (nI d)] [] h Q := by
  intro k
  induction k with
  | zero =>
    intro d h hk f A kk
    refine B_105_12 A.1.1 ?_
    try simp (disch := omega) only [lit, tn_nI, z_inb, nI_add, pk_mul, z_le, z_nle, z_lt, z_nlt, z_ne, z_m1, pk_sub, xI_ss, xI_sd, xI_n, eq_self, true_and, and_true, and_self, not_true_eq_false, not_false_eq_true, false_implies, true_implies, implies_true, Classical.not_not, forall_const, true_or, or_true, false_or, or_false, false_and, and_false, if_true, if_false, ite_true, ite_false, reduceIte, reduceCtorEq]
    have := kk h f A
    unfold aStay at this
    rw [show d = 300 by omega] at this
    exact this
  | succ k ih =>
    intro d h hk f A kk
    refine B_105_12 A.1.1 ?_
    try simp (disch := omega) only [lit, tn_nI, z_inb, nI_add, pk_mul, z_le, z_nle, z_lt, z_nlt, z_ne, z_m1, pk_sub, xI_ss, xI_sd, xI_n, eq_self, true_and, and_true, and_self, not_true_eq_false, not_false_eq_true, false_implies, true_implies, implies_true, Classical.not_not, forall_const, true_or, or_true, false_or, or_false, false_and, and_false, if_true, if_false, ite_true, ite_false, reduceIte, reduceCtorEq]
    unfold aStay at kk
    rw [← dN_s] at kk
    refine c_shAt (x1 := 0) A (by omega) hp (fun h1 f1 A1 => ⟨fun z => ?_, fun z => ?_⟩)
    · rw [if_pos z] at kk
      exact ih (d + 1) h1 (by omega) (f.tr f1) A1 kk
    · rw [if_neg z] at kk
      exact kk h1 (f.tr f1) A1
theorem c_cStays {x : Int32} {K : Int32 → XH → Prop} (A : CA T c r h) (k : ∀ h1, Fx SA h h1 → CA T c r h1 → K (opN x (tn (T 0 1)) (-1) (fun p => aStay T (T 0 3) p 300 0 r)) h1) : ClI 105 [.ref 4, .int x] h K := by
  have p6 := A.1.p6
  refine B_105_0 A.1.1 (c_cPage A.1 (fun p hp e => ⟨A.1.1, ?_⟩) (fun q => ⟨A.1.1, ?_⟩))
  · subst e
    rw [opN_1 hp (by omega)] at k
    try simp (disch := omega) only [lit, tn_nI, z_inb, nI_add, pk_mul, z_le, z_nle, z_lt, z_nlt, z_ne, z_m1, pk_sub, xI_ss, xI_sd, xI_n, eq_self, true_and, and_true, and_self, not_true_eq_false, not_false_eq_true, false_implies, true_implies, implies_true, Classical.not_not, forall_const, true_or, or_true, false_or, or_false, false_and, and_false, if_true, if_false, ite_true, ite_false, reduceIte, reduceCtorEq]
    exact l_cstays A hp 300 0 h (by decide) Fx.rf A (fun h1 f A1 => ⟨_, rfl, k h1 f A1⟩)
  · rw [opN_0 q] at k
    try simp (disch := omega) only [lit, tn_nI, z_inb, nI_add, pk_mul, z_le, z_nle, z_lt, z_nlt, z_ne, z_m1, pk_sub, xI_ss, xI_sd, xI_n, eq_self, true_and, and_true, and_self, not_true_eq_false, not_false_eq_true, false_implies, true_implies, implies_true, Classical.not_not, forall_const, true_or, or_true, false_or, or_false, false_and, and_false, if_true, if_false, ite_true, ite_false, reduceIte, reduceCtorEq]
    exact ⟨_, rfl, k h Fx.rf A⟩
/-- LONGEST: k days left, the most so far, how many on end up to now -/
def aLong (T : Nat → Nat → Int32) (seed : Int32) (p : Nat) : Nat → Nat → Nat → (Nat → Int32) → Int32
  | 0, most, _, _ => nI most
  | k + 1, most, run, r => if r (8 + p) = nI 4 then aLong T seed p k (if most < run + 1 then run + 1 else most) (run + 1) (dayS T seed r) else aLong T seed p k most 0 (dayS T seed r)
theorem l_clong {n : Nat} (A : CA T c r h0) (hp : p < tn (T 0 1)) (hn : n ≤ 300) : ∀ (k d most run : Nat) (h : XH), d + k = n + 1 → run ≤ d → most ≤ d → Fx SA h0 h → CA T c r h → (∀ h1, Fx SA h0 h1 → CA T c r h1 → Q (.int (aLong T (T 0 3) p k most run (dN T (T 0 3) d r))) h1) → Ev 106 25 [.ref 4, .int (nI p), .int (nI n), .int (nI most), .int (nI run), .int (nI d), .null] [] h Q := by
  intro k
  induction k with
  | zero =>
    intro d most run h hk _ _ f A kk
    refine B_106_25 A.1.1 ?_
    try simp (disch := omega) only [lit, tn_nI, z_inb, nI_add, pk_mul, z_le, z_nle, z_lt, z_nlt, z_ne, z_m1, pk_sub, xI_ss, xI_sd, xI_n, eq_self, true_and, and_true, and_self, not_true_eq_false, not_false_eq_true, false_implies, true_implies, implies_true, Classical.not_not, forall_const, true_or, or_true, false_or, or_false, false_and, and_false, if_true, if_false, ite_true, ite_false, reduceIte, reduceCtorEq]
    exact kk h f A
  | succ k ih =>
    intro d most run h hk h1 h2 f A kk
    refine B_106_25 A.1.1 ?_
    try simp (disch := omega) only [lit, tn_nI, z_inb, nI_add, pk_mul, z_le, z_nle, z_lt, z_nlt, z_ne, z_m1, pk_sub, xI_ss, xI_sd, xI_n, eq_self, true_and, and_true, and_self, not_true_eq_false, not_false_eq_true, false_implies, true_implies, implies_true, Classical.not_not, forall_const, true_or, or_true, false_or, or_false, false_and, and_false, if_true, if_false, ite_true, ite_false, reduceIte, reduceCtorEq]
    unfold aLong at kk
    rw [← dN_s] at kk
    refine c_shAt (x1 := 0) A (by omega) hp (fun h1 f1 A1 => ⟨fun z => ?_, fun z => ?_⟩)
    · rw [if_neg z] at kk
      exact ih (d + 1) most 0 h1 (by omega) (by omega) (by omega) (f.tr f1) A1 kk
    · rw [if_pos z] at kk
      have e : (if nI most < nI (run + 1) then nI (run + 1) else nI most) = nI (if most < run + 1 then run + 1 else most) := by
        by_cases q : most < run + 1
        · rw [if_pos q, if_pos (nI_lt q (by omega))]
        · rw [if_neg q, if_neg (nI_nlt (by omega) (by omega))]
      rw [e]
      exact ih (d + 1) _ (run + 1) h1 (by omega) (by omega) (by split <;> omega) (f.tr f1) A1 kk
theorem c_cLong {x y : Int32} {K : Int32 → XH → Prop} (A : CA T c r h) (k : ∀ h1, Fx SA h h1 → CA T c r h1 → K (opN x (tn (T 0 1)) (-1) (fun p => opN y 301 (-1) (fun n => aLong T (T 0 3) p (n + 1) 0 0 r))) h1) : ClI 106 [.ref 4, .int x, .int y] h K := by
  have p6 := A.1.p6
  refine B_106_0 A.1.1 (c_cPage A.1 (fun p hp e => ⟨A.1.1, ?_⟩) (fun q => ⟨A.1.1, ?_⟩))
  · subst e
    rw [opN_1 hp (by omega)] at k
    try simp (disch := omega) only [lit, tn_nI, z_inb, nI_add, pk_mul, z_le, z_nle, z_lt, z_nlt, z_ne, z_m1, pk_sub, xI_ss, xI_sd, xI_n, eq_self, true_and, and_true, and_self, not_true_eq_false, not_false_eq_true, false_implies, true_implies, implies_true, Classical.not_not, forall_const, true_or, or_true, false_or, or_false, false_and, and_false, if_true, if_false, ite_true, ite_false, reduceIte, reduceCtorEq]
    refine c_isAhead A.1.1 (fun n hn e => ⟨A.1.1, ?_⟩) (fun q => ⟨A.1.1, ?_⟩)
    · subst e
      rw [opN_1 hn (by omega)] at k
      try simp (disch := omega) only [lit, tn_nI, z_inb, nI_add, pk_mul, z_le, z_nle, z_lt, z_nlt, z_ne, z_m1, pk_sub, xI_ss, xI_sd, xI_n, eq_self, true_and, and_true, and_self, not_true_eq_false, not_false_eq_true, false_implies, true_implies, implies_true, Classical.not_not, forall_const, true_or, or_true, false_or, or_false, false_and, and_false, if_true, if_false, ite_true, ite_false, reduceIte, reduceCtorEq]
      exact l_clong A hp (by omega) (n + 1) 0 0 0 h (by omega) (by omega) (by omega) Fx.rf A (fun h1 f A1 => ⟨_, rfl, k h1 f A1⟩)
    · rw [opN_0 q] at k
      try simp (disch := omega) only [lit, tn_nI, z_inb, nI_add, pk_mul, z_le, z_nle, z_lt, z_nlt, z_ne, z_m1, pk_sub, xI_ss, xI_sd, xI_n, eq_self, true_and, and_true, and_self, not_true_eq_false, not_false_eq_true, false_implies, true_implies, implies_true, Classical.not_not, forall_const, true_or, or_true, false_or, or_false, false_and, and_false, if_true, if_false, ite_true, ite_false, reduceIte, reduceCtorEq]
      exact ⟨_, rfl, k h Fx.rf A⟩
  · rw [opN_0 q] at k
    try simp (disch := omega) only [lit, tn_nI, z_inb, nI_add, pk_mul, z_le, z_nle, z_lt, z_nlt, z_ne, z_m1, pk_sub, xI_ss, xI_sd, xI_n, eq_self, true_and, and_true, and_self, not_true_eq_false, not_false_eq_true, false_implies, true_implies, implies_true, Classical.not_not, forall_const, true_or, or_true, false_or, or_false, false_and, and_false, if_true, if_false, ite_true, ite_false, reduceIte, reduceCtorEq]
    exact ⟨_, rfl, k h Fx.rf A⟩
theorem c_cShade {x y : Int32} {K : Int32 → XH → Prop} (A : CA T c r h) (k : ∀ h1, Fx SA h h1 → CA T c r h1 → K (opN x (tn (T 0 1)) (-1) (fun p => opN y 301 (-1) (fun n => dN T (T 0 3) n r (8 + p)))) h1) : ClI 109 [.ref 4, .int x, .int y] h K := by
  have p6 := A.1.p6
  refine B_109_0 A.1.1 (c_cPage A.1 (fun p hp e => ⟨A.1.1, ?_⟩) (fun q => ⟨A.1.1, ?_⟩))
  · subst e
    rw [opN_1 hp (by omega)] at k
    try simp (disch := omega) only [lit, tn_nI, z_inb, nI_add, pk_mul, z_le, z_nle, z_lt, z_nlt, z_ne, z_m1, pk_sub, xI_ss, xI_sd, xI_n, eq_self, true_and, and_true, and_self, not_true_eq_false, not_false_eq_true, false_implies, true_implies, implies_true, Classical.not_not, forall_const, true_or, or_true, false_or, or_false, false_and, and_false, if_true, if_false, ite_true, ite_false, reduceIte, reduceCtorEq]
    refine c_isAhead A.1.1 (fun n hn e => ⟨A.1.1, ?_⟩) (fun q => ⟨A.1.1, ?_⟩)
    · subst e
      rw [opN_1 hn (by omega)] at k
      try simp (disch := omega) only [lit, tn_nI, z_inb, nI_add, pk_mul, z_le, z_nle, z_lt, z_nlt, z_ne, z_m1, pk_sub, xI_ss, xI_sd, xI_n, eq_self, true_and, and_true, and_self, not_true_eq_false, not_false_eq_true, false_implies, true_implies, implies_true, Classical.not_not, forall_const, true_or, or_true, false_or, or_false, false_and, and_false, if_true, if_false, ite_true, ite_false, reduceIte, reduceCtorEq]
      exact c_shAt (x1 := 0) A (by omega) hp (fun h1 f1 A1 => ⟨_, rfl, k h1 f1 A1⟩)
    · rw [opN_0 q] at k
      try simp (disch := omega) only [lit, tn_nI, z_inb, nI_add, pk_mul, z_le, z_nle, z_lt, z_nlt, z_ne, z_m1, pk_sub, xI_ss, xI_sd, xI_n, eq_self, true_and, and_true, and_self, not_true_eq_false, not_false_eq_true, false_implies, true_implies, implies_true, Classical.not_not, forall_const, true_or, or_true, false_or, or_false, false_and, and_false, if_true, if_false, ite_true, ite_false, reduceIte, reduceCtorEq]
      exact ⟨_, rfl, k h Fx.rf A⟩
  · rw [opN_0 q] at k
    try simp (disch := omega) only [lit, tn_nI, z_inb, nI_add, pk_mul, z_le, z_nle, z_lt, z_nlt, z_ne, z_m1, pk_sub, xI_ss, xI_sd, xI_n, eq_self, true_and, and_true, and_self, not_true_eq_false, not_false_eq_true, false_implies, true_implies, implies_true, Classical.not_not, forall_const, true_or, or_true, false_or, or_false, false_and, and_false, if_true, if_false, ite_true, ite_false, reduceIte, reduceCtorEq]
    exact ⟨_, rfl, k h Fx.rf A⟩
end CA

/-! RESTS: the reference -/
section RR
variable {T : Nat → Nat → Int32} {l : Nat} {r : Nat → Int32} {h0 h : XH} {Q : Value → XH → Prop}
theorem RM.dj (M : RM T l h) : tDj T := by
  intro f hf q
  have f8 := M.f8
  obtain ⟨w, hw, e82, e4, e5⟩ := (M.2.2.1.2.2.1 f hf).2.2.1
  have h4 := (bit_get (x := T 0 4) (f := f) (by omega)).mpr q.1
  have h5 := (bit_get (x := T 0 5) (f := f) (by omega)).mpr q.2
  rw [e4] at h4
  rw [e5] at h5
  by_cases z : w = 1
  · subst z; exact absurd h5 (by decide)
  · rw [if_neg z] at h4; exact absurd h4 (by decide)
theorem RM.who (M : RM T l h) {f : Nat} (hf : f < tn (T 0 0)) : xI h 82 (8 * l + f) = nI (wh T f) ∧ wh T f ≤ 2 := by
  have f8 := M.f8
  obtain ⟨w, hw, e82, e4, e5⟩ := (M.2.2.1.2.2.1 f hf).2.2.1
  have b4 := bit_get (x := T 0 4) (f := f) (by omega)
  have b5 := bit_get (x := T 0 5) (f := f) (by omega)
  rw [e4] at b4
  rw [e5] at b5
  have e : wh T f = w := by
    unfold wh
    rcases (show w = 0 ∨ w = 1 ∨ w = 2 by omega) with z | z | z
    · subst z
      rw [if_neg (fun q => absurd (b4.mpr q) (by decide)), if_neg (fun q => absurd (b5.mpr q) (by decide))]
    · subst z
      rw [if_pos (b4.mp rfl)]
    · subst z
      rw [if_neg (fun q => absurd (b4.mpr q) (by decide)), if_pos (b5.mp rfl)]
  rw [e]
  exact ⟨e82, hw⟩
theorem l_alk {w o x : Nat} (M : RM T l h) (hw : w < 2 ^ 31) (ho : o < 2 ^ 31) (hx : x ≤ 2) (k1 : alk T x w o → Q (.int (nI 1)) h) (k0 : ¬ alk T x w o → Q (.int (nI 0)) h) : ∀ (k f : Nat), f + k = tn (T 0 0) → (∀ g, g < f → wh T g ≠ x → fIn (mo T) w g = fIn (mo T) o g) → Ev 249 3 [.ref 69, .int (nI w), .int (nI o), .int (nI x), .int (nI f)] [] h Q := by
  have l2 := M.l2
  have f8 := M.f8
  have e18 := M.2.1
  have e1 := M.nf
  intro k
  induction k with
  | zero =>
    intro f hk hq
    refine B_249_3 M.1 ?_
    try simp (disch := omega) only [lit, tn_nI, z_inb, nI_add, pk_mul, z_le, z_nle, z_lt, z_nlt, z_ne, z_m1, pk_sub, xI_ss, xI_sd, xI_n, eq_self, true_and, and_true, and_self, not_true_eq_false, not_false_eq_true, false_implies, true_implies, implies_true, Classical.not_not, forall_const, true_or, or_true, false_or, or_false, false_and, and_false, if_true, if_false, ite_true, ite_false, reduceIte, reduceCtorEq, e18, e1]
    exact k1 (fun g hg hne => hq g (by omega) hne)
  | succ k ih =>
    intro f hk hq
    obtain ⟨e82, hw2⟩ := M.who (f := f) (by omega)
    have m3 := (mo_n M.2.2.2.n (f := f) (by omega)).2.2
    have i1 : fIn (mo T) w f ≤ mo T f := fIn_lt
    have i2 : fIn (mo T) o f ≤ mo T f := fIn_lt
    refine B_249_3 M.1 ?_
    by_cases q : wh T f = x
    · try simp (disch := omega) only [lit, tn_nI, z_inb, nI_add, pk_mul, z_le, z_nle, z_lt, z_nlt, z_ne, z_m1, pk_sub, xI_ss, xI_sd, xI_n, eq_self, true_and, and_true, and_self, not_true_eq_false, not_false_eq_true, false_implies, true_implies, implies_true, Classical.not_not, forall_const, true_or, or_true, false_or, or_false, false_and, and_false, if_true, if_false, ite_true, ite_false, reduceIte, reduceCtorEq, e18, e1, e82, q]
      exact ih (f + 1) (by omega) (fun g hg hne => by
        by_cases e : g = f
        · subst e; exact absurd q hne
        · exact hq g (by omega) hne)
    · try simp (disch := omega) only [lit, tn_nI, z_inb, nI_add, pk_mul, z_le, z_nle, z_lt, z_nlt, z_ne, z_m1, pk_sub, xI_ss, xI_sd, xI_n, eq_self, true_and, and_true, and_self, not_true_eq_false, not_false_eq_true, false_implies, true_implies, implies_true, Classical.not_not, forall_const, true_or, or_true, false_or, or_false, false_and, and_false, if_true, if_false, ite_true, ite_false, reduceIte, reduceCtorEq, e18, e1, e82]
      refine c_fIn M (by omega) hw ⟨M.1, c_fIn M (by omega) ho ⟨M.1, ?_⟩⟩
      by_cases e : fIn (mo T) w f = fIn (mo T) o f
      · rw [e]
        try simp (disch := omega) only [lit, tn_nI, z_inb, nI_add, pk_mul, z_le, z_nle, z_lt, z_nlt, z_ne, z_m1, pk_sub, xI_ss, xI_sd, xI_n, eq_self, true_and, and_true, and_self, not_true_eq_false, not_false_eq_true, false_implies, true_implies, implies_true, Classical.not_not, forall_const, true_or, or_true, false_or, or_false, false_and, and_false, if_true, if_false, ite_true, ite_false, reduceIte, reduceCtorEq]
        exact ih (f + 1) (by omega) (fun g hg hne => by
          by_cases e2 : g = f
          · subst e2; exact e
          · exact hq g (by omega) hne)
      · try simp (disch := omega) only [lit, tn_nI, z_inb, nI_add, pk_mul, z_le, z_nle, z_lt, z_nlt, z_ne, z_m1, pk_sub, xI_ss, xI_sd, xI_n, eq_self, true_and, and_true, and_self, not_true_eq_false, not_false_eq_true, false_implies, true_implies, implies_true, Classical.not_not, forall_const, true_or, or_true, false_or, or_false, false_and, and_false, if_true, if_false, ite_true, ite_false, reduceIte, reduceCtorEq]
        exact k0 (fun z => e (z f (by omega) q))
theorem c_alk {w o x : Nat} {K : Int32 → XH → Prop} (M : RM T l h) (hw : w < 2 ^ 31) (ho : o < 2 ^ 31) (hx : x ≤ 2) (k1 : alk T x w o → K (nI 1) h) (k0 : ¬ alk T x w o → K (nI 0) h) : ClI 249 [.ref 69, .int (nI w), .int (nI o), .int (nI x)] h K :=
  B_249_0 M.1 (l_alk M hw ho hx (fun q => ⟨_, rfl, k1 q⟩) (fun q => ⟨_, rfl, k0 q⟩) (tn (T 0 0)) 0 (by omega) (fun g hg => absurd hg (by omega)))
theorem l_rst2 {w my your : Nat} (A : RF T l r h) (hw : w < wN T) (hm : my < 6) (hy : your < 6) (k1 : (∀ o, o < wN T → (alk T 1 w o → dg (wsh T r w) your ≤ dg (wsh T r o) your) ∧ (alk T 2 w o → dg (wsh T r w) my ≤ dg (wsh T r o) my)) → Q (.int (nI 1)) h) (k0 : ¬ (∀ o, o < wN T → (alk T 1 w o → dg (wsh T r w) your ≤ dg (wsh T r o) your) ∧ (alk T 2 w o → dg (wsh T r w) my ≤ dg (wsh T r o) my)) → Q (.int (nI 0)) h) :
    ∀ (k o : Nat), o + k = wN T → (∀ v, v < o → (alk T 1 w v → dg (wsh T r w) your ≤ dg (wsh T r v) your) ∧ (alk T 2 w v → dg (wsh T r w) my ≤ dg (wsh T r v) my)) → Ev 248 63 [.ref 69, .int (nI w), .int (nI my), .int (nI your), .int (nI o)] [] h Q := by
  obtain ⟨e6, W2⟩ := A.1.wn
  have e18 := A.1.2.1
  have l2 := A.1.l2
  have hs := A.1.1
  have ew := A.2.2.2 w hw
  have hlw := wsh_lt (w := w) A.1.2.2.2 A.2.2.1
  intro k
  induction k with
  | zero =>
    intro o hk hq
    refine B_248_63 hs ?_
    try simp (disch := omega) only [lit, tn_nI, z_inb, nI_add, pk_mul, z_le, z_nle, z_lt, z_nlt, z_ne, z_m1, pk_sub, xI_ss, xI_sd, xI_n, eq_self, true_and, and_true, and_self, not_true_eq_false, not_false_eq_true, false_implies, true_implies, implies_true, Classical.not_not, forall_const, true_or, or_true, false_or, or_false, false_and, and_false, if_true, if_false, ite_true, ite_false, reduceIte, reduceCtorEq, e18, e6]
    exact k1 (fun v hv => hq v (by omega))
  | succ k ih =>
    intro o hk hq
    have eo := A.2.2.2 o (by omega)
    have hlo := wsh_lt (w := o) A.1.2.2.2 A.2.2.1
    have d1 := dg_le (s := wsh T r w) (p := your)
    have d2 := dg_le (s := wsh T r w) (p := my)
    have d3 := dg_le (s := wsh T r o) (p := your)
    have d4 := dg_le (s := wsh T r o) (p := my)
    have third : (alk T 1 w o → dg (wsh T r w) your ≤ dg (wsh T r o) your) → (alk T 2 w o → dg (wsh T r w) my ≤ dg (wsh T r o) my) → Ev 248 151 [.ref 69, .int (nI w), .int (nI my), .int (nI your), .int (nI o)] [] h Q := by
      intro q1 q2
      refine B_248_151 hs ?_
      try simp (disch := omega) only [lit, tn_nI, z_inb, nI_add, pk_mul, z_le, z_nle, z_lt, z_nlt, z_ne, z_m1, pk_sub, xI_ss, xI_sd, xI_n, eq_self, true_and, and_true, and_self, not_true_eq_false, not_false_eq_true, false_implies, true_implies, implies_true, Classical.not_not, forall_const, true_or, or_true, false_or, or_false, false_and, and_false, if_true, if_false, ite_true, ite_false, reduceIte, reduceCtorEq]
      refine ih (o + 1) (by omega) (fun v hv => ?_)
      by_cases e : v = o
      · subst e; exact ⟨q1, q2⟩
      · exact hq v (by omega)
    have second : (alk T 1 w o → dg (wsh T r w) your ≤ dg (wsh T r o) your) → Ev 248 114 [.ref 69, .int (nI w), .int (nI my), .int (nI your), .int (nI o)] [] h Q := by
      intro q1
      refine B_248_114 hs ?_
      try simp (disch := omega) only [lit, tn_nI, z_inb, nI_add, pk_mul, z_le, z_nle, z_lt, z_nlt, z_ne, z_m1, pk_sub, xI_ss, xI_sd, xI_n, eq_self, true_and, and_true, and_self, not_true_eq_false, not_false_eq_true, false_implies, true_implies, implies_true, Classical.not_not, forall_const, true_or, or_true, false_or, or_false, false_and, and_false, if_true, if_false, ite_true, ite_false, reduceIte, reduceCtorEq, eo]
      refine c_dgR hs (by omega) (by omega) ⟨hs, ?_⟩
      try simp (disch := omega) only [lit, tn_nI, z_inb, nI_add, pk_mul, z_le, z_nle, z_lt, z_nlt, z_ne, z_m1, pk_sub, xI_ss, xI_sd, xI_n, eq_self, true_and, and_true, and_self, not_true_eq_false, not_false_eq_true, false_implies, true_implies, implies_true, Classical.not_not, forall_const, true_or, or_true, false_or, or_false, false_and, and_false, if_true, if_false, ite_true, ite_false, reduceIte, reduceCtorEq, ew]
      refine c_dgR hs (by omega) (by omega) ⟨hs, ?_⟩
      by_cases z : dg (wsh T r w) my ≤ dg (wsh T r o) my
      · try simp (disch := omega) only [lit, tn_nI, z_inb, nI_add, pk_mul, z_le, z_nle, z_lt, z_nlt, z_ne, z_m1, pk_sub, xI_ss, xI_sd, xI_n, eq_self, true_and, and_true, and_self, not_true_eq_false, not_false_eq_true, false_implies, true_implies, implies_true, Classical.not_not, forall_const, true_or, or_true, false_or, or_false, false_and, and_false, if_true, if_false, ite_true, ite_false, reduceIte, reduceCtorEq]
        exact third q1 (fun _ => z)
      · try simp (disch := omega) only [lit, tn_nI, z_inb, nI_add, pk_mul, z_le, z_nle, z_lt, z_nlt, z_ne, z_m1, pk_sub, xI_ss, xI_sd, xI_n, eq_self, true_and, and_true, and_self, not_true_eq_false, not_false_eq_true, false_implies, true_implies, implies_true, Classical.not_not, forall_const, true_or, or_true, false_or, or_false, false_and, and_false, if_true, if_false, ite_true, ite_false, reduceIte, reduceCtorEq]
        refine c_alk A.1 (by omega) (by omega) (by decide) (fun q => ⟨hs, ?_⟩) (fun q => ⟨hs, ?_⟩)
        · try simp (disch := omega) only [lit, tn_nI, z_inb, nI_add, pk_mul, z_le, z_nle, z_lt, z_nlt, z_ne, z_m1, pk_sub, xI_ss, xI_sd, xI_n, eq_self, true_and, and_true, and_self, not_true_eq_false, not_false_eq_true, false_implies, true_implies, implies_true, Classical.not_not, forall_const, true_or, or_true, false_or, or_false, false_and, and_false, if_true, if_false, ite_true, ite_false, reduceIte, reduceCtorEq]
          exact k0 (fun hall => z ((hall o (by omega)).2 q))
        · try simp (disch := omega) only [lit, tn_nI, z_inb, nI_add, pk_mul, z_le, z_nle, z_lt, z_nlt, z_ne, z_m1, pk_sub, xI_ss, xI_sd, xI_n, eq_self, true_and, and_true, and_self, not_true_eq_false, not_false_eq_true, false_implies, true_implies, implies_true, Classical.not_not, forall_const, true_or, or_true, false_or, or_false, false_and, and_false, if_true, if_false, ite_true, ite_false, reduceIte, reduceCtorEq]
          exact third q1 (fun q' => absurd q' q)
    refine B_248_63 hs ?_
    try simp (disch := omega) only [lit, tn_nI, z_inb, nI_add, pk_mul, z_le, z_nle, z_lt, z_nlt, z_ne, z_m1, pk_sub, xI_ss, xI_sd, xI_n, eq_self, true_and, and_true, and_self, not_true_eq_false, not_false_eq_true, false_implies, true_implies, implies_true, Classical.not_not, forall_const, true_or, or_true, false_or, or_false, false_and, and_false, if_true, if_false, ite_true, ite_false, reduceIte, reduceCtorEq, e18, e6, eo]
    refine c_dgR hs (by omega) (by omega) ⟨hs, ?_⟩
    try simp (disch := omega) only [lit, tn_nI, z_inb, nI_add, pk_mul, z_le, z_nle, z_lt, z_nlt, z_ne, z_m1, pk_sub, xI_ss, xI_sd, xI_n, eq_self, true_and, and_true, and_self, not_true_eq_false, not_false_eq_true, false_implies, true_implies, implies_true, Classical.not_not, forall_const, true_or, or_true, false_or, or_false, false_and, and_false, if_true, if_false, ite_true, ite_false, reduceIte, reduceCtorEq, ew]
    refine c_dgR hs (by omega) (by omega) ⟨hs, ?_⟩
    by_cases z : dg (wsh T r w) your ≤ dg (wsh T r o) your
    · try simp (disch := omega) only [lit, tn_nI, z_inb, nI_add, pk_mul, z_le, z_nle, z_lt, z_nlt, z_ne, z_m1, pk_sub, xI_ss, xI_sd, xI_n, eq_self, true_and, and_true, and_self, not_true_eq_false, not_false_eq_true, false_implies, true_implies, implies_true, Classical.not_not, forall_const, true_or, or_true, false_or, or_false, false_and, and_false, if_true, if_false, ite_true, ite_false, reduceIte, reduceCtorEq]
      exact second (fun _ => z)
    · try simp (disch := omega) only [lit, tn_nI, z_inb, nI_add, pk_mul, z_le, z_nle, z_lt, z_nlt, z_ne, z_m1, pk_sub, xI_ss, xI_sd, xI_n, eq_self, true_and, and_true, and_self, not_true_eq_false, not_false_eq_true, false_implies, true_implies, implies_true, Classical.not_not, forall_const, true_or, or_true, false_or, or_false, false_and, and_false, if_true, if_false, ite_true, ite_false, reduceIte, reduceCtorEq]
      refine c_alk A.1 (by omega) (by omega) (by decide) (fun q => ⟨hs, ?_⟩) (fun q => ⟨hs, ?_⟩)
      · try simp (disch := omega) only [lit, tn_nI, z_inb, nI_add, pk_mul, z_le, z_nle, z_lt, z_nlt, z_ne, z_m1, pk_sub, xI_ss, xI_sd, xI_n, eq_self, true_and, and_true, and_self, not_true_eq_false, not_false_eq_true, false_implies, true_implies, implies_true, Classical.not_not, forall_const, true_or, or_true, false_or, or_false, false_and, and_false, if_true, if_false, ite_true, ite_false, reduceIte, reduceCtorEq]
        exact k0 (fun hall => z ((hall o (by omega)).1 q))
      · try simp (disch := omega) only [lit, tn_nI, z_inb, nI_add, pk_mul, z_le, z_nle, z_lt, z_nlt, z_ne, z_m1, pk_sub, xI_ss, xI_sd, xI_n, eq_self, true_and, and_true, and_self, not_true_eq_false, not_false_eq_true, false_implies, true_implies, implies_true, Classical.not_not, forall_const, true_or, or_true, false_or, or_false, false_and, and_false, if_true, if_false, ite_true, ite_false, reduceIte, reduceCtorEq]
        exact second (fun q' => absurd q' q)
theorem l_rst1 {w my your : Nat} (A : RF T l r h) (hw : w < wN T) (hm : my < 6) (hy : your < 6) (k1 : rst T r my your w → Q (.int (nI 1)) h) (k0 : ¬ rst T r my your w → Q (.int (nI 0)) h) :
    ∀ (k f : Nat), f + k = tn (T 0 0) → (∀ g, g < f → wh T g = 0 → nI (fIn (mo T) w g) = r g) → Ev 248 3 [.ref 69, .int (nI w), .int (nI my), .int (nI your), .int (nI f)] [] h Q := by
  have W2 := A.1.wn.2
  have e1 := A.1.nf
  have e18 := A.1.2.1
  have l2 := A.1.l2
  have f8 := A.1.f8
  have hs := A.1.1
  intro k
  induction k with
  | zero =>
    intro f hk hq
    refine B_248_3 hs ?_
    try simp (disch := omega) only [lit, tn_nI, z_inb, nI_add, pk_mul, z_le, z_nle, z_lt, z_nlt, z_ne, z_m1, pk_sub, xI_ss, xI_sd, xI_n, eq_self, true_and, and_true, and_self, not_true_eq_false, not_false_eq_true, false_implies, true_implies, implies_true, Classical.not_not, forall_const, true_or, or_true, false_or, or_false, false_and, and_false, if_true, if_false, ite_true, ite_false, reduceIte, reduceCtorEq, e18, e1]
    have ha : ∀ g, g < tn (T 0 0) → wh T g = 0 → nI (fIn (mo T) w g) = r g := fun g hg => hq g (by omega)
    exact l_rst2 A hw hm hy (fun q => k1 ⟨ha, q⟩) (fun q => k0 (fun z => q z.2)) (wN T) 0 (by omega) (fun v hv => absurd hv (by omega))
  | succ k ih =>
    intro f hk hq
    obtain ⟨e82, hw2⟩ := A.1.who (f := f) (by omega)
    have e108 : xI h 108 f = r f := by rw [A.2.1 f (by omega), sw_n (by omega)]
    have nx : (wh T f = 0 → nI (fIn (mo T) w f) = r f) → Ev 248 54 [.ref 69, .int (nI w), .int (nI my), .int (nI your), .int (nI f)] [] h Q := by
      intro q
      refine B_248_54 hs ?_
      try simp (disch := omega) only [lit, tn_nI, z_inb, nI_add, pk_mul, z_le, z_nle, z_lt, z_nlt, z_ne, z_m1, pk_sub, xI_ss, xI_sd, xI_n, eq_self, true_and, and_true, and_self, not_true_eq_false, not_false_eq_true, false_implies, true_implies, implies_true, Classical.not_not, forall_const, true_or, or_true, false_or, or_false, false_and, and_false, if_true, if_false, ite_true, ite_false, reduceIte, reduceCtorEq]
      refine ih (f + 1) (by omega) (fun g hg h0 => ?_)
      by_cases e : g = f
      · subst e; exact q h0
      · exact hq g (by omega) h0
    refine B_248_3 hs ?_
    by_cases q : wh T f = 0
    · try simp (disch := omega) only [lit, tn_nI, z_inb, nI_add, pk_mul, z_le, z_nle, z_lt, z_nlt, z_ne, z_m1, pk_sub, xI_ss, xI_sd, xI_n, eq_self, true_and, and_true, and_self, not_true_eq_false, not_false_eq_true, false_implies, true_implies, implies_true, Classical.not_not, forall_const, true_or, or_true, false_or, or_false, false_and, and_false, if_true, if_false, ite_true, ite_false, reduceIte, reduceCtorEq, e18, e1, e82, q]
      refine c_fIn A.1 (by omega) (by omega) ⟨hs, ?_⟩
      try simp (disch := omega) only [lit, tn_nI, z_inb, nI_add, pk_mul, z_le, z_nle, z_lt, z_nlt, z_ne, z_m1, pk_sub, xI_ss, xI_sd, xI_n, eq_self, true_and, and_true, and_self, not_true_eq_false, not_false_eq_true, false_implies, true_implies, implies_true, Classical.not_not, forall_const, true_or, or_true, false_or, or_false, false_and, and_false, if_true, if_false, ite_true, ite_false, reduceIte, reduceCtorEq, e108]
      exact ⟨fun z => nx (fun _ => z), fun z => k0 (fun y => z (y.1 f (by omega) q))⟩
    · try simp (disch := omega) only [lit, tn_nI, z_inb, nI_add, pk_mul, z_le, z_nle, z_lt, z_nlt, z_ne, z_m1, pk_sub, xI_ss, xI_sd, xI_n, eq_self, true_and, and_true, and_self, not_true_eq_false, not_false_eq_true, false_implies, true_implies, implies_true, Classical.not_not, forall_const, true_or, or_true, false_or, or_false, false_and, and_false, if_true, if_false, ite_true, ite_false, reduceIte, reduceCtorEq, e18, e1, e82]
      exact nx (fun z => absurd z q)
theorem l_rrest {my your : Nat} {i : Int32} (A : RF T l r h) (hm : my < 6) (hy : your < 6) (kk : Q (.int (selP (rst T r my your) i (wN T) 0 0)) h) :
    ∀ (k w n : Nat), w + k = wN T → n ≤ w → selP (rst T r my your) i (wN T) 0 0 = selP (rst T r my your) i k w n → Ev 247 38 [.ref 69, .int (nI my), .int (nI your), .int i, .int (nI n), .int (nI w)] [] h Q := by
  obtain ⟨e6, W2⟩ := A.1.wn
  have e18 := A.1.2.1
  have l2 := A.1.l2
  have hs := A.1.1
  intro k
  induction k with
  | zero =>
    intro w n hk hn e
    refine B_247_38 hs ?_
    try simp (disch := omega) only [lit, tn_nI, z_inb, nI_add, pk_mul, z_le, z_nle, z_lt, z_nlt, z_ne, z_m1, pk_sub, xI_ss, xI_sd, xI_n, eq_self, true_and, and_true, and_self, not_true_eq_false, not_false_eq_true, false_implies, true_implies, implies_true, Classical.not_not, forall_const, true_or, or_true, false_or, or_false, false_and, and_false, if_true, if_false, ite_true, ite_false, reduceIte, reduceCtorEq, e18, e6]
    rw [e, selP_z] at kk
    refine ⟨fun z => ?_, fun z => ?_⟩
    · rw [if_neg (show ¬ i = -1 from z)] at kk; exact kk
    · rw [if_pos (show i = -1 from z)] at kk; exact kk
  | succ k ih =>
    intro w n hk hn e
    refine B_247_38 hs ?_
    try simp (disch := omega) only [lit, tn_nI, z_inb, nI_add, pk_mul, z_le, z_nle, z_lt, z_nlt, z_ne, z_m1, pk_sub, xI_ss, xI_sd, xI_n, eq_self, true_and, and_true, and_self, not_true_eq_false, not_false_eq_true, false_implies, true_implies, implies_true, Classical.not_not, forall_const, true_or, or_true, false_or, or_false, false_and, and_false, if_true, if_false, ite_true, ite_false, reduceIte, reduceCtorEq, e18, e6]
    refine B_248_0 hs (l_rst1 A (by omega) hm hy (fun q => ⟨_, rfl, hs, ?_⟩) (fun q => ⟨_, rfl, hs, ?_⟩) (tn (T 0 0)) 0 (by omega) (fun g hg => absurd hg (by omega)))
    · rw [selP_1 q] at e
      try simp (disch := omega) only [lit, tn_nI, z_inb, nI_add, pk_mul, z_le, z_nle, z_lt, z_nlt, z_ne, z_m1, pk_sub, xI_ss, xI_sd, xI_n, eq_self, true_and, and_true, and_self, not_true_eq_false, not_false_eq_true, false_implies, true_implies, implies_true, Classical.not_not, forall_const, true_or, or_true, false_or, or_false, false_and, and_false, if_true, if_false, ite_true, ite_false, reduceIte, reduceCtorEq]
      refine ⟨fun z => ?_, fun z => ?_⟩
      · rw [if_neg z] at e
        exact ih (w + 1) (n + 1) (by omega) (by omega) e
      · rw [if_pos z] at e
        rw [e] at kk
        exact kk
    · rw [selP_0 q] at e
      try simp (disch := omega) only [lit, tn_nI, z_inb, nI_add, pk_mul, z_le, z_nle, z_lt, z_nlt, z_ne, z_m1, pk_sub, xI_ss, xI_sd, xI_n, eq_self, true_and, and_true, and_self, not_true_eq_false, not_false_eq_true, false_implies, true_implies, implies_true, Classical.not_not, forall_const, true_or, or_true, false_or, or_false, false_and, and_false, if_true, if_false, ite_true, ite_false, reduceIte, reduceCtorEq]
      exact ih (w + 1) n (by omega) (by omega) e
theorem c_rRests {x y i : Int32} {K : Int32 → XH → Prop} (M : RM T l h) (hr : rq (xI h 108) r) (hro : rOk T r) (k : ∀ h1, Gx SV [58, 61] h h1 → K (oRests T r x y i) h1) : ClI 247 [.ref 69, .int x, .int y, .int i] h K := by
  have p6 := M.p6
  unfold oRests at k
  refine B_247_0 M.1 (c_rPage M (fun my hp e => ⟨M.1, ?_⟩) (fun q => ⟨M.1, ?_⟩))
  · subst e
    rw [opN_1 hp (by omega)] at k
    try simp (disch := omega) only [lit, tn_nI, z_inb, nI_add, pk_mul, z_le, z_nle, z_lt, z_nlt, z_ne, z_m1, pk_sub, xI_ss, xI_sd, xI_n, eq_self, true_and, and_true, and_self, not_true_eq_false, not_false_eq_true, false_implies, true_implies, implies_true, Classical.not_not, forall_const, true_or, or_true, false_or, or_false, false_and, and_false, if_true, if_false, ite_true, ite_false, reduceIte, reduceCtorEq]
    refine c_rPage M (fun your hp2 e => ⟨M.1, ?_⟩) (fun q => ⟨M.1, ?_⟩)
    · subst e
      rw [opN_1 hp2 (by omega)] at k
      try simp (disch := omega) only [lit, tn_nI, z_inb, nI_add, pk_mul, z_le, z_nle, z_lt, z_nlt, z_ne, z_m1, pk_sub, xI_ss, xI_sd, xI_n, eq_self, true_and, and_true, and_self, not_true_eq_false, not_false_eq_true, false_implies, true_implies, implies_true, Classical.not_not, forall_const, true_or, or_true, false_or, or_false, false_and, and_false, if_true, if_false, ite_true, ite_false, reduceIte, reduceCtorEq]
      by_cases hmy : my = your
      · rw [if_pos hmy] at k
        rw [hmy]
        try simp (disch := omega) only [lit, tn_nI, z_inb, nI_add, pk_mul, z_le, z_nle, z_lt, z_nlt, z_ne, z_m1, pk_sub, xI_ss, xI_sd, xI_n, eq_self, true_and, and_true, and_self, not_true_eq_false, not_false_eq_true, false_implies, true_implies, implies_true, Classical.not_not, forall_const, true_or, or_true, false_or, or_false, false_and, and_false, if_true, if_false, ite_true, ite_false, reduceIte, reduceCtorEq]
        exact ⟨_, rfl, k h Gx.rf⟩
      · rw [if_neg hmy] at k
        try simp (disch := omega) only [lit, tn_nI, z_inb, nI_add, pk_mul, z_le, z_nle, z_lt, z_nlt, z_ne, z_m1, pk_sub, xI_ss, xI_sd, xI_n, eq_self, true_and, and_true, and_self, not_true_eq_false, not_false_eq_true, false_implies, true_implies, implies_true, Classical.not_not, forall_const, true_or, or_true, false_or, or_false, false_and, and_false, if_true, if_false, ite_true, ite_false, reduceIte, reduceCtorEq]
        refine ⟨fun z => ?_, fun z => ?_⟩
        · have z : (-1 : Int32) ≤ i := z
          rw [if_neg (Int32.not_lt.mpr z)] at k
          exact c_fillR M hr hro (fun h1 g A => l_rrest A (by omega) (by omega) ⟨_, rfl, k h1 g⟩ (wN T) 0 0 (by omega) (by omega) rfl)
        · have z : ¬ (-1 : Int32) ≤ i := z
          rw [if_pos (Int32.not_le.mp z)] at k
          exact ⟨_, rfl, k h Gx.rf⟩
    · rw [opN_0 q] at k
      try simp (disch := omega) only [lit, tn_nI, z_inb, nI_add, pk_mul, z_le, z_nle, z_lt, z_nlt, z_ne, z_m1, pk_sub, xI_ss, xI_sd, xI_n, eq_self, true_and, and_true, and_self, not_true_eq_false, not_false_eq_true, false_implies, true_implies, implies_true, Classical.not_not, forall_const, true_or, or_true, false_or, or_false, false_and, and_false, if_true, if_false, ite_true, ite_false, reduceIte, reduceCtorEq]
      exact ⟨_, rfl, k h Gx.rf⟩
  · rw [opN_0 q] at k
    try simp (disch := omega) only [lit, tn_nI, z_inb, nI_add, pk_mul, z_le, z_nle, z_lt, z_nlt, z_ne, z_m1, pk_sub, xI_ss, xI_sd, xI_n, eq_self, true_and, and_true, and_self, not_true_eq_false, not_false_eq_true, false_implies, true_implies, implies_true, Classical.not_not, forall_const, true_or, or_true, false_or, or_false, false_and, and_false, if_true, if_false, ite_true, ite_false, reduceIte, reduceCtorEq]
    exact ⟨_, rfl, k h Gx.rf⟩
end RR

/-! STANDS: the class, filled and asked -/
theorem bit_z {x : Int32} {f : Nat} (hf : f < 32) : (x >>> (nI f &&& 31)) &&& 1 = 0 ↔ gb x f = false := by
  have a := and1 (x >>> (nI f &&& 31))
  have b := bit_get (x := x) hf
  cases h : gb x f
  · rw [h] at b
    exact ⟨fun _ => rfl, fun _ => Classical.byContradiction (fun q => absurd (b.mp (a.mpr q)) (by decide))⟩
  · rw [h] at b
    exact ⟨fun q => absurd q (a.mp (b.mpr rfl)), fun q => by cases q⟩
theorem dg_s {s p : Nat} : s / 5 ^ p / 5 = s / 5 ^ (p + 1) := by rw [Nat.div_div_eq_div_mul, Nat.pow_succ]
theorem ar_50 {h : XH} (hs : Sh h) : Ar h 50 20 := ⟨sk_50 hs, sn_50 hs, by decide⟩
section ST
variable {T : Nat → Nat → Int32} {c : Nat} {h0 : XH} {R r : Nat → Int32} {Q : Value → XH → Prop} {s g L : Nat}
theorem l_could (hs : Sh h0) (p6 : tn (T 0 1) ≤ 6) (hsl : s < 2 ^ 31) (hm : ∀ p, p < tn (T 0 1) → xI h0 51 p = cbM T R p) (k1 : ∀ h1, Fx [50] h0 h1 → xI h1 50 = pRow T s R → Q (.int (nI 1)) h1) (k0 : ∀ h1 p, Fx [50] h0 h1 → sEq T R (xI h1 50) → p < tn (T 0 1) → gb (cbM T R p) (dg s p) = false → Q (.int (nI 0)) h1) :
    ∀ (k p x : Nat) (h : XH), p + k = tn (T 0 1) → x = s / 5 ^ p → Fx [50] h0 h → sEq T R (xI h 50) → (∀ q, q < p → xI h 50 (8 + q) = nI (dg s q)) → Ev 92 5 [.ref 49, .null, .int (nI (tn (T 0 1))), .int (nI x), .int (nI p), .null] [] h Q := by
  intro k
  induction k with
  | zero =>
    intro p x h hk hx f he hq
    refine B_92_5 (f.sh hs (by decide)) ?_
    try simp (disch := omega) only [lit, tn_nI, z_inb, nI_add, pk_mul, z_le, z_nle, z_lt, z_nlt, z_ne, z_m1, pk_sub, xI_ss, xI_sd, xI_n, eq_self, true_and, and_true, and_self, not_true_eq_false, not_false_eq_true, false_implies, true_implies, implies_true, Classical.not_not, forall_const, true_or, or_true, false_or, or_false, false_and, and_false, if_true, if_false, ite_true, ite_false, reduceIte, reduceCtorEq]
    refine k1 h f ?_
    funext i
    unfold pRow
    by_cases q : 8 ≤ i ∧ i < 8 + tn (T 0 1)
    · rw [if_pos q, ← hq (i - 8) (by omega), show 8 + (i - 8) = i by omega]
    · rw [if_neg q, ← he i q]
  | succ k ih =>
    intro p x h hk hx f he hq
    subst hx
    have hle : s / 5 ^ p ≤ s := Nat.div_le_self _ _
    have e51 : xI h 51 p = cbM T R p := by rw [f.at (by decide)]; exact hm p (by omega)
    have hd : s / 5 ^ p % 5 < 5 := Nat.mod_lt _ (by decide)
    refine B_92_5 (f.sh hs (by decide)) ?_
    rw [rm5 (by omega), dm5 (by omega), dg_s]
    try simp (disch := omega) only [lit, tn_nI, z_inb, nI_add, pk_mul, z_le, z_nle, z_lt, z_nlt, z_ne, z_m1, pk_sub, xI_ss, xI_sd, xI_n, eq_self, true_and, and_true, and_self, not_true_eq_false, not_false_eq_true, false_implies, true_implies, implies_true, Classical.not_not, forall_const, true_or, or_true, false_or, or_false, false_and, and_false, if_true, if_false, ite_true, ite_false, reduceIte, reduceCtorEq, e51]
    have b := bit_z (x := cbM T R p) (f := dg s p) (by unfold dg; omega)
    refine ⟨fun z => ?_, fun z => k0 h p f he (by omega) (b.mp z)⟩
    refine ih (p + 1) _ _ (by omega) rfl (f.set (by decide)) (fun i hi => ?_) (fun q hq' => ?_)
    · rw [xI_sd (by omega)]; exact he i hi
    · by_cases e : q = p
      · subst e; rw [xI_ss]; rfl
      · rw [xI_sd (by omega)]; exact hq q (by omega)
theorem pRow_s (R : Nat → Int32) : sEq T R (pRow T s R) := fun i hi => by unfold pRow; rw [if_neg hi]
theorem l_does (M : CM T c h0) (h50 : xI h0 50 = pRow T s R) (h38 : ∀ p, p < tn (T 0 1) → xI h0 38 p = fm T R p (tn (T 6 p))) (k1 : (∀ p, p < tn (T 0 1) → shNx T (pRow T s R) p = nI (dg s p)) → ∀ h1, Fx [34, 35] h0 h1 → Q (.int (nI 1)) h1) (k0 : (¬ ∀ p, p < tn (T 0 1) → shNx T (pRow T s R) p = nI (dg s p)) → ∀ h1, Fx [34, 35] h0 h1 → Q (.int (nI 0)) h1) :
    ∀ (k p : Nat) (h : XH), p + k = tn (T 0 1) → Fx [34, 35] h0 h → (∀ q, q < p → shNx T (pRow T s R) q = nI (dg s q)) → Ev 93 2 [.ref 49, .int (nI (tn (T 0 1))), .int (nI p)] [] h Q := by
  have p6 := M.p6
  intro k
  induction k with
  | zero =>
    intro p h hk f hq
    refine B_93_2 (f.sh M.1 (by decide)) ?_
    try simp (disch := omega) only [lit, tn_nI, z_inb, nI_add, pk_mul, z_le, z_nle, z_lt, z_nlt, z_ne, z_m1, pk_sub, xI_ss, xI_sd, xI_n, eq_self, true_and, and_true, and_self, not_true_eq_false, not_false_eq_true, false_implies, true_implies, implies_true, Classical.not_not, forall_const, true_or, or_true, false_or, or_false, false_and, and_false, if_true, if_false, ite_true, ite_false, reduceIte, reduceCtorEq]
    exact k1 (fun q hq' => hq q (by omega)) h f
  | succ k ih =>
    intro p h hk f hq
    have M' := M.fx f (by decide)
    have tS := M.2.2.2.1
    have eT : tx h = T := M'.2.2.1
    have e50 : xI h 50 = pRow T s R := by rw [f.at (by decide)]; exact h50
    have c2 := (tS.1.2.2 p (by omega)).2
    refine B_93_2 M'.1 ?_
    try simp (disch := omega) only [lit, tn_nI, z_inb, nI_add, pk_mul, z_le, z_nle, z_lt, z_nlt, z_ne, z_m1, pk_sub, xI_ss, xI_sd, xI_n, eq_self, true_and, and_true, and_self, not_true_eq_false, not_false_eq_true, false_implies, true_implies, implies_true, Classical.not_not, forall_const, true_or, or_true, false_or, or_false, false_and, and_false, if_true, if_false, ite_true, ite_false, reduceIte, reduceCtorEq]
    refine c_shadeAnew M'.1 (ar_50 M'.1) (by decide) (by rw [eT]; exact tS.1) (by rw [eT]; exact tS.2.1) (by omega) ?_ (fun h1 f1 => ?_)
    · rw [eT, e50, f.at (by decide), h38 p (by omega)]
      exact fm_eq tS.2.2 (by omega) ((pRow_s R).sh p6) _ (Nat.le_refl _)
    · have f2 : Fx [34, 35] h0 h1 := f.tr f1
      have M1 := M.fx f2 (by decide)
      have e1 : xI h1 50 (8 + p) = nI (dg s p) := by
        rw [f1.at (by decide), e50]
        unfold pRow
        rw [if_pos (by omega), show 8 + p - 8 = p by omega]
      refine ⟨M1.1, ?_⟩
      rw [eT, e50]
      try simp (disch := omega) only [lit, tn_nI, z_inb, nI_add, pk_mul, z_le, z_nle, z_lt, z_nlt, z_ne, z_m1, pk_sub, xI_ss, xI_sd, xI_n, eq_self, true_and, and_true, and_self, not_true_eq_false, not_false_eq_true, false_implies, true_implies, implies_true, Classical.not_not, forall_const, true_or, or_true, false_or, or_false, false_and, and_false, if_true, if_false, ite_true, ite_false, reduceIte, reduceCtorEq, e1]
      refine ⟨fun z => ?_, fun z => ?_⟩
      · refine ih (p + 1) h1 (by omega) f2 (fun q hq' => ?_)
        by_cases e : q = p
        · subst e; exact z
        · exact hq q (by omega)
      · exact k0 (fun q => z (q p (by omega))) h1 f2
/-- the bits and the count of those below s -/
def IB (T : Nat → Nat → Int32) (R : Nat → Int32) (g L s : Nat) (h : XH) : Prop := (∀ j, j < L → ∀ i, i < 64 → (bX (uL (xL h g j)) i = true ↔ 64 * j + i < s ∧ stP T R (64 * j + i))) ∧ xI h 49 1 = nI (cntP (stP T R) s)
theorem IB.no {h : XH} (I : IB T R g L s h) (hn : ¬ stP T R s) : IB T R g L (s + 1) h := by
  refine ⟨fun j hj i hi => ?_, by rw [cntP_0 hn]; exact I.2⟩
  rw [I.1 j hj i hi]
  constructor
  · intro q; exact ⟨by omega, q.2⟩
  · intro q
    refine ⟨?_, q.2⟩
    by_cases e : 64 * j + i = s
    · rw [e] at q; exact absurd q.2 hn
    · omega
theorem IB.yes {h : XH} (I : IB T R g L s h) (hP : stP T R s) (hg : g ≠ 49) : IB T R g L (s + 1) (xsI (xsL h g (s / 64) ((xL h g (s / 64)) ||| ((1 : Int64) <<< ((nI (s % 64)).toInt64 &&& 63)))) 49 1 (xI h 49 1 + nI 1)) := by
  refine ⟨fun j hj i hi => ?_, ?_⟩
  · show bX (uL (xL (xsL h g (s / 64) _) g j)) i = true ↔ _
    rw [xL_s]
    have i0 := I.1 j hj i hi
    by_cases e : j = s / 64
    · subst e
      rw [up_same, uL_or, one_sh _ (Nat.mod_lt _ (by decide)), bX_one, Bool.or_eq_true, i0, decide_eq_true_iff]
      constructor
      · intro q
        rcases q with q | q
        · exact ⟨by omega, q.2⟩
        · rw [show 64 * (s / 64) + i = s by omega]; exact ⟨by omega, hP⟩
      · intro q
        by_cases e2 : s % 64 = i
        · exact Or.inr e2
        · exact Or.inl ⟨by omega, q.2⟩
    · rw [up_ne e, i0]
      constructor
      · intro q; exact ⟨by omega, q.2⟩
      · intro q; exact ⟨by omega, q.2⟩
  · show xI (xsI _ 49 1 _) 49 1 = _
    rw [xI_ss, cntP_1 hP, I.2, nI_add]
theorem l_stf (M : CM T c h0) (hL : tL T) (h5 : xR h0 49 5 = g) (hg : g = 52 ∨ 124 ≤ g) (hgL : xN h0 g = L) (hL2 : L < 1000) (hLn : 5 ^ tn (T 0 1) ≤ 64 * L) (hm : ∀ p, p < tn (T 0 1) → xI h0 51 p = cbM T R p) (h38 : ∀ p, p < tn (T 0 1) → xI h0 38 p = fm T R p (tn (T 6 p))) (kk : ∀ h1, Lx [34, 35, 49, 50] [g] h0 h1 → IB T R g L (5 ^ tn (T 0 1)) h1 → Q .null (xsI h1 49 0 (nI 1))) :
    ∀ (k s : Nat) (h : XH), s + k = 5 ^ tn (T 0 1) → Lx [34, 35, 49, 50] [g] h0 h → sEq T R (xI h 50) → IB T R g L s h → Ev 88 127 [.ref 49, .null, .int (nI (tn (T 0 1))), .int (nI (5 ^ tn (T 0 1))), .null, .int (nI s)] [] h Q := by
  have p6 := M.p6
  have h56 : 5 ^ tn (T 0 1) ≤ 15625 := Nat.pow_le_pow_right (n := 5) (by decide) p6
  intro k
  induction k with
  | zero =>
    intro s h hk f he I
    refine B_88_127 (f.sh M.1 (by decide)) ?_
    try simp (disch := omega) only [lit, tn_nI, z_inb, nI_add, pk_mul, z_le, z_nle, z_lt, z_nlt, z_ne, z_m1, pk_sub, xI_ss, xI_sd, xI_n, eq_self, true_and, and_true, and_self, not_true_eq_false, not_false_eq_true, false_implies, true_implies, implies_true, Classical.not_not, forall_const, true_or, or_true, false_or, or_false, false_and, and_false, if_true, if_false, ite_true, ite_false, reduceIte, reduceCtorEq]
    rw [show s = 5 ^ tn (T 0 1) by omega] at I
    exact kk h f I
  | succ k ih =>
    intro s h hk f he I
    have M' := M.lx f (by decide)
    have hm' : ∀ p, p < tn (T 0 1) → xI h 51 p = cbM T R p := fun p hp => by rw [f.at (by decide)]; exact hm p hp
    have nx : ∀ h1, Lx [34, 35, 49, 50] [g] h0 h1 → sEq T R (xI h1 50) → IB T R g L (s + 1) h1 → Ev 88 181 [.ref 49, .null, .int (nI (tn (T 0 1))), .int (nI (5 ^ tn (T 0 1))), .null, .int (nI s)] [] h1 Q := by
      intro h1 f1 e1 I1
      refine B_88_181 (f1.sh M.1 (by decide)) ?_
      try simp (disch := omega) only [lit, tn_nI, z_inb, nI_add, pk_mul, z_le, z_nle, z_lt, z_nlt, z_ne, z_m1, pk_sub, xI_ss, xI_sd, xI_n, eq_self, true_and, and_true, and_self, not_true_eq_false, not_false_eq_true, false_implies, true_implies, implies_true, Classical.not_not, forall_const, true_or, or_true, false_or, or_false, false_and, and_false, if_true, if_false, ite_true, ite_false, reduceIte, reduceCtorEq]
      exact ih (s + 1) h1 (by omega) f1 e1 I1
    have Ih : ∀ h1, Lx [34, 35, 50] [] h h1 → IB T R g L s h1 := fun h1 q => by
      unfold IB
      rw [q.al (by simp), q.at (a := 49) (by decide)]
      exact I
    refine B_88_127 M'.1 ?_
    try simp (disch := omega) only [lit, tn_nI, z_inb, nI_add, pk_mul, z_le, z_nle, z_lt, z_nlt, z_ne, z_m1, pk_sub, xI_ss, xI_sd, xI_n, eq_self, true_and, and_true, and_self, not_true_eq_false, not_false_eq_true, false_implies, true_implies, implies_true, Classical.not_not, forall_const, true_or, or_true, false_or, or_false, false_and, and_false, if_true, if_false, ite_true, ite_false, reduceIte, reduceCtorEq]
    refine B_92_0 M'.1 (l_could (s := s) M'.1 p6 (by omega) hm' (fun h1 f1 e1 => ⟨_, rfl, f1.sh M'.1 (by decide), ?_⟩) (fun h1 p f1 e1 hp hno => ⟨_, rfl, f1.sh M'.1 (by decide), ?_⟩) (tn (T 0 1)) 0 s h (by omega) (by rw [Nat.pow_zero, Nat.div_one]) Fx.rf he (fun q hq => absurd hq (by omega)))
    · have g1 : Lx [34, 35, 49, 50] [g] h0 h1 := f.tr ((f1.mono (by decide)).lx)
      have M1 := M.lx g1 (by decide)
      have h38' : ∀ p, p < tn (T 0 1) → xI h1 38 p = fm T R p (tn (T 6 p)) := fun p hp => by rw [g1.at (by decide)]; exact h38 p hp
      try simp (disch := omega) only [lit, tn_nI, z_inb, nI_add, pk_mul, z_le, z_nle, z_lt, z_nlt, z_ne, z_m1, pk_sub, xI_ss, xI_sd, xI_n, eq_self, true_and, and_true, and_self, not_true_eq_false, not_false_eq_true, false_implies, true_implies, implies_true, Classical.not_not, forall_const, true_or, or_true, false_or, or_false, false_and, and_false, if_true, if_false, ite_true, ite_false, reduceIte, reduceCtorEq]
      refine B_93_0 M1.1 (l_does M1 e1 h38' (fun q h2 f2 => ⟨_, rfl, f2.sh M1.1 (by decide), ?_⟩) (fun q h2 f2 => ⟨_, rfl, f2.sh M1.1 (by decide), ?_⟩) (tn (T 0 1)) 0 h1 (by omega) Fx.rf (fun q hq => absurd hq (by omega)))
      · have g2 : Lx [34, 35, 49, 50] [g] h0 h2 := g1.tr ((f2.mono (by decide)).lx)
        have I2 := Ih h2 (((f1.mono (by decide)).lx).tr ((f2.mono (by decide)).lx))
        have hP : stP T R s := ⟨by omega, q⟩
        have e5 : xR h2 49 5 = g := by rw [g2.1]; exact h5
        have eN : xN h2 g = L := by rw [g2.2.2.2.1]; exact hgL
        have ed : nI s / nI 64 = nI (s / 64) := pk_div (d := 64) (by omega) (by decide) (by decide)
        have em : s - s / 64 * 64 = s % 64 := by omega
        have e0 : xI h2 50 = pRow T s R := by rw [f2.at (by decide)]; exact e1
        try simp (disch := omega) only [lit, tn_nI, z_inb, nI_add, pk_mul, z_le, z_nle, z_lt, z_nlt, z_ne, z_m1, pk_sub, xI_ss, xI_sd, xI_n, eq_self, true_and, and_true, and_self, not_true_eq_false, not_false_eq_true, false_implies, true_implies, implies_true, Classical.not_not, forall_const, true_or, or_true, false_or, or_false, false_and, and_false, if_true, if_false, ite_true, ite_false, reduceIte, reduceCtorEq, ed]
        rw [e5, eN, em]
        refine ⟨inb (by omega) (by omega), inb (by omega) (by omega), fun h5 eh => ?_⟩
        subst eh
        refine nx _ ((g2.setL (by simp)).set (by decide)) ?_ (I2.yes hP (by omega))
        rw [xI_n (by decide)]
        show sEq T R (xI h2 50)
        rw [e0]
        exact pRow_s R
      · have g2 : Lx [34, 35, 49, 50] [g] h0 h2 := g1.tr ((f2.mono (by decide)).lx)
        have I2 := Ih h2 (((f1.mono (by decide)).lx).tr ((f2.mono (by decide)).lx))
        try simp (disch := omega) only [lit, tn_nI, z_inb, nI_add, pk_mul, z_le, z_nle, z_lt, z_nlt, z_ne, z_m1, pk_sub, xI_ss, xI_sd, xI_n, eq_self, true_and, and_true, and_self, not_true_eq_false, not_false_eq_true, false_implies, true_implies, implies_true, Classical.not_not, forall_const, true_or, or_true, false_or, or_false, false_and, and_false, if_true, if_false, ite_true, ite_false, reduceIte, reduceCtorEq]
        refine nx h2 g2 ?_ (I2.no (fun z => q z.2))
        rw [f2.at (by decide), e1]
        exact pRow_s R
    · have g1 : Lx [34, 35, 49, 50] [g] h0 h1 := f.tr ((f1.mono (by decide)).lx)
      have I1 := Ih h1 ((f1.mono (by decide)).lx)
      try simp (disch := omega) only [lit, tn_nI, z_inb, nI_add, pk_mul, z_le, z_nle, z_lt, z_nlt, z_ne, z_m1, pk_sub, xI_ss, xI_sd, xI_n, eq_self, true_and, and_true, and_self, not_true_eq_false, not_false_eq_true, false_implies, true_implies, implies_true, Classical.not_not, forall_const, true_or, or_true, false_or, or_false, false_and, and_false, if_true, if_false, ite_true, ite_false, reduceIte, reduceCtorEq]
      exact nx h1 g1 e1 (I1.no (fun z => cb_ok M.2.2.2.1 hL hp (pRow_s R) (by have := dg_le (s := s) (p := p); omega) hno (z.2 p hp)))
theorem l_msk (M : CM T c h0) (hL : tL T) (hR : xI h0 50 = R) (h38 : ∀ p, p < tn (T 0 1) → xI h0 38 p = fm T R p (tn (T 6 p))) (kk : ∀ h1, Fx [51] h0 h1 → (∀ p, p < tn (T 0 1) → xI h1 51 p = cbM T R p) → Ev 88 127 [.ref 49, .null, .int (nI (tn (T 0 1))), .int (nI (5 ^ tn (T 0 1))), .null, .int (nI 0)] [] (xsI h1 49 1 (nI 0)) Q) :
    ∀ (k p : Nat) (h : XH), p + k = tn (T 0 1) → Fx [51] h0 h → (∀ q, q < p → xI h 51 q = cbM T R q) → Ev 88 87 [.ref 49, .null, .int (nI (tn (T 0 1))), .int (nI (5 ^ tn (T 0 1))), .null, .int (nI p)] [] h Q := by
  have p6 := M.p6
  intro k
  induction k with
  | zero =>
    intro p h hk f hq
    refine B_88_87 (f.sh M.1 (by decide)) ?_
    try simp (disch := omega) only [lit, tn_nI, z_inb, nI_add, pk_mul, z_le, z_nle, z_lt, z_nlt, z_ne, z_m1, pk_sub, xI_ss, xI_sd, xI_n, eq_self, true_and, and_true, and_self, not_true_eq_false, not_false_eq_true, false_implies, true_implies, implies_true, Classical.not_not, forall_const, true_or, or_true, false_or, or_false, false_and, and_false, if_true, if_false, ite_true, ite_false, reduceIte, reduceCtorEq]
    exact kk h f (fun q hq' => hq q (by omega))
  | succ k ih =>
    intro p h hk f hq
    have M' := M.fx f (by decide)
    refine B_88_87 M'.1 ?_
    try simp (disch := omega) only [lit, tn_nI, z_inb, nI_add, pk_mul, z_le, z_nle, z_lt, z_nlt, z_ne, z_m1, pk_sub, xI_ss, xI_sd, xI_n, eq_self, true_and, and_true, and_self, not_true_eq_false, not_false_eq_true, false_implies, true_implies, implies_true, Classical.not_not, forall_const, true_or, or_true, false_or, or_false, false_and, and_false, if_true, if_false, ite_true, ite_false, reduceIte, reduceCtorEq]
    refine c_canBe (R := R) M'.1 M'.2.2.1 M.2.2.2.1 hL (by omega) (by rw [f.at (by decide)]; exact hR) (by rw [f.at (by decide)]; exact h38 p (by omega)) ⟨M'.1, ?_⟩
    try simp (disch := omega) only [lit, tn_nI, z_inb, nI_add, pk_mul, z_le, z_nle, z_lt, z_nlt, z_ne, z_m1, pk_sub, xI_ss, xI_sd, xI_n, eq_self, true_and, and_true, and_self, not_true_eq_false, not_false_eq_true, false_implies, true_implies, implies_true, Classical.not_not, forall_const, true_or, or_true, false_or, or_false, false_and, and_false, if_true, if_false, ite_true, ite_false, reduceIte, reduceCtorEq]
    refine ih (p + 1) _ (by omega) (f.set (by decide)) (fun q hq' => ?_)
    by_cases e : q = p
    · subst e; rw [xI_ss]
    · rw [xI_sd e]; exact hq q (by omega)
theorem stP_c (t : tA T) (e : EqR R r) : stP T R = stP T r := by
  funext s
  unfold stP
  have p6 := t.p6
  have : ∀ p, shNx T (pRow T s R) p = shNx T (pRow T s r) p := fun p => shNx_eq t.cv (fun i hi => by unfold pRow; rw [e i (by omega)]) p
  simp only [this]
def SOn (T : Nat → Nat → Int32) (r : Nat → Int32) (h : XH) : Prop := xI h 49 0 = nI 1 ∧ 5 ^ tn (T 0 1) ≤ 64 * xN h (xR h 49 5) ∧ (∀ j, j < xN h (xR h 49 5) → ∀ i, i < 64 → (bX (uL (xL h (xR h 49 5) j)) i = true ↔ stP T r (64 * j + i))) ∧ xI h 49 1 = nI (cntP (stP T r) (5 ^ tn (T 0 1)))
def SOk (T : Nat → Nat → Int32) (r : Nat → Int32) (h : XH) : Prop := xI h 49 0 = nI 0 ∨ SOn T r h
abbrev SS : List Nat := [34, 35, 38, 49, 50, 51]
theorem g_49 {h : XH} (s : Sh h) : xR h 49 5 = 52 ∨ 124 ≤ xR h 49 5 := (s.2.2.2.2.1 (49, 5, 4, 52) (by decide)).2.1
theorem len_49 {h : XH} (rm : RmOk h) : xN h (xR h 49 5) = 1 ∨ xN h (xR h 49 5) = 245 := by
  have := rm.2.2 (49, 5, 4, 52) (by decide)
  unfold okL at this
  simpa [gl] using this
/-- from the row that is long enough on -/
theorem l_fs53 (M : CM T c h0) (hL : tL T) (hr : EqR (xI h0 39) r) (rm : RmOk h0) (hle : 5 ^ tn (T 0 1) ≤ 64 * xN h0 (xR h0 49 5)) (kk : ∀ h1, Hx SS [(49, 5)] h0 h1 → SOn T r h1 → Q .null h1) : Ev 88 53 [.ref 49, .ref 39, .int (nI (tn (T 0 1))), .int (nI (5 ^ tn (T 0 1))), .null, .null] [] h0 Q := by
  have p6 := M.p6
  have g4 := g_49 M.1
  have l2 : xN h0 (xR h0 49 5) < 1000 := by have := len_49 rm; omega
  have tS := M.2.2.2.1
  generalize hg : xR h0 49 5 = g at *
  generalize hLn : xN h0 g = L at *
  refine B_88_53 M.1 ?_
  rw [hg]
  refine c_fillL M.1 ⟨by rw [← hg]; exact sgk_49_5 M.1, hLn, by omega⟩ (by omega) (fun h1 f1 z1 => ⟨f1.sh M.1 (by decide), by decide, ?_⟩)
  have ff : Lx SS [g] h0 (xsA h1 50 (va_cpy (xI h1 39) (xI h1 50) (tn (0 : Int32)) (tn (0 : Int32)) (tn (20 : Int32)))) := (f1.mono (by decide) (fun a ha => ha)).tr (Fx.lx (Fx.rf.setA (by decide)))
  have eR : EqR (xI (xsA h1 50 (va_cpy (xI h1 39) (xI h1 50) (tn (0 : Int32)) (tn (0 : Int32)) (tn (20 : Int32)))) 50) r := by
    rw [xI_A, f1.at (by decide)]
    exact cpy_eq.tr hr
  have zL : ∀ j, j < L → xL (xsA h1 50 (va_cpy (xI h1 39) (xI h1 50) (tn (0 : Int32)) (tn (0 : Int32)) (tn (20 : Int32)))) g j = 0 := z1
  generalize xsA h1 50 (va_cpy (xI h1 39) (xI h1 50) (tn (0 : Int32)) (tn (0 : Int32)) (tn (20 : Int32))) = h2 at ff eR zL ⊢
  have M2 := M.lx ff (by decide)
  have eT : tx h2 = T := M2.2.2.1
  refine c_findFirm M2.1 (ar_50 M2.1) (by decide) (by rw [eT]; exact tS.1) (fun h3 f3 e3 => ⟨f3.sh M2.1 (by decide), ?_⟩)
  rw [eT] at e3
  have M3 := M2.fx f3 (by decide)
  have ff3 : Lx SS [g] h0 h3 := ff.tr ((f3.mono (by decide)).lx)
  have e50 : xI h3 50 = xI h2 50 := f3.at (by decide)
  refine l_msk M3 hL e50 (fun p hp => e3 p hp) (fun h4 f4 e4 => ?_) (tn (T 0 1)) 0 h3 (by omega) Fx.rf (fun q hq => absurd hq (by omega))
  have f5 : Fx [51, 49] h3 (xsI h4 49 1 (nI 0)) := (f4.mono (by decide)).set (by decide)
  have ff5 : Lx SS [g] h0 (xsI h4 49 1 (nI 0)) := ff3.tr ((f5.mono (by decide)).lx)
  have i5 : xI (xsI h4 49 1 (nI 0)) 49 1 = nI 0 := xI_ss
  have m5 : ∀ p, p < tn (T 0 1) → xI (xsI h4 49 1 (nI 0)) 51 p = cbM T (xI h2 50) p := fun p hp => by rw [xI_n (by decide)]; exact e4 p hp
  generalize xsI h4 49 1 (nI 0) = h5 at f5 ff5 i5 m5 ⊢
  have M5 := M.lx ff5 (by decide)
  have e505 : xI h5 50 = xI h2 50 := by rw [f5.at (by decide)]; exact e50
  have xL5 : xL h5 g = xL h2 g := by rw [f5.2.1, f3.2.1]
  have R5 : xR h5 49 5 = g := by rw [ff5.1]; exact hg
  have N5 : xN h5 g = L := by rw [ff5.2.2.2.1]; exact hLn
  have I5 : IB T (xI h2 50) g L 0 h5 := by
    refine ⟨fun j hj i hi => ?_, i5⟩
    rw [xL5, zL j hj, uL_0, bX_0]
    exact ⟨fun q => (by cases q), fun q => absurd q.1 (by omega)⟩
  have h385 : ∀ p, p < tn (T 0 1) → xI h5 38 p = fm T (xI h2 50) p (tn (T 6 p)) := fun p hp => by rw [f5.at (by decide)]; exact e3 p hp
  refine l_stf M5 hL R5 g4 N5 l2 hle m5 h385 (fun h6 f6 I6 => ?_) (5 ^ tn (T 0 1)) 0 h5 (by omega) Lx.rf (by rw [e505]; exact fun _ _ => rfl) I5
  have ff7 : Lx SS [g] h0 (xsI h6 49 0 (nI 1)) := (ff5.tr (f6.mono (by decide) (fun a ha => ha))).set (by decide)
  have R7 : xR (xsI h6 49 0 (nI 1)) 49 5 = g := by rw [ff7.1]; exact hg
  have N7 : xN (xsI h6 49 0 (nI 1)) g = L := by rw [ff7.2.2.2.1]; exact hLn
  unfold IB at I6
  rw [stP_c M.2.2.2 eR] at I6
  refine kk _ ?_ ⟨xI_ss, by rw [R7, N7]; exact hle, fun j hj i hi => ?_, by rw [xI_sd (by decide)]; exact I6.2⟩
  · refine ⟨ff7.sh M.1 (by decide), fun a j _ _ => by rw [ff7.1], fun a ha hS hG => ⟨ff7.at hS, ff7.al ?_⟩, fun a _ => ⟨by rw [ff7.2.2.2.1], by rw [ff7.2.2.1]⟩, fun r => ?_, by rw [ff7.2.2.2.2.1]; exact Nat.le_refl _, fun q _ => Or.inl (by rw [ff7.1])⟩
    · have hne : a ≠ xR h0 49 5 := hG (49, 5) (by simp)
      rw [hg] at hne
      simpa using hne
    · unfold RmOk
      rw [ff7.2.2.2.2.1, ff7.2.2.2.2.2.1, gl_c ff7.1 ff7.2.2.2.1]
      exact r
  · rw [R7, N7] at hj
    rw [R7]
    show bX (uL (xL h6 g j)) i = true ↔ _
    rw [I6.1 j hj i hi]
    exact ⟨fun q => q.2, fun q => ⟨q.1, q⟩⟩
theorem c_fillS {K : XH → Prop} (M : CM T c h0) (hL : tL T) (hr : EqR (xI h0 39) r) (W : SOk T r h0) (rm : RmOk h0) (k : ∀ h1, Hx SS [(49, 5)] h0 h1 → SOn T r h1 → K h1) : ClV 88 [.ref 49, .ref 39] h0 K := by
  have p6 := M.p6
  have h56 : 5 ^ tn (T 0 1) ≤ 15625 := Nat.pow_le_pow_right (n := 5) (by decide) p6
  have h50 : 0 < 5 ^ tn (T 0 1) := Nat.pow_pos (by decide)
  have e1 : xI h0 (xR h0 34 0) 1 = nI (tn (T 0 1)) := by rw [M.2.1, M.t0]; exact M.2.2.2.p
  have e5 : xI h0 1 (tn (T 0 1)) = nI (5 ^ tn (T 0 1)) := by
    rw [M.1.2.2.2.2.2.2.2.1.2.2]
    exact five_n _ (by omega)
  have l2 := len_49 rm
  have ln : xN h0 (xR h0 49 5) < 1000 := by omega
  have ed : (nI (5 ^ tn (T 0 1)) + 63) / 64 = nI ((5 ^ tn (T 0 1) + 63) / 64) := by
    rw [show (63 : Int32) = nI 63 from rfl, nI_add]
    exact pk_div (d := 64) (by omega) (by decide) (by decide)
  refine B_88_0 M.1 ⟨fun z => ?_, fun z => ?_⟩
  · rw [e1, tn_nI (by omega), e5, ed, show Int32.ofNat (xN h0 (xR h0 49 5)) = nI (xN h0 (xR h0 49 5)) from rfl]
    refine ⟨inb (by omega) (by decide), fun y => ?_, fun y => ⟨by decide, ?_⟩⟩
    · have hle := (nI_leI (by omega) (by omega)).mp y
      exact l_fs53 M hL hr rm (by omega) (fun h1 p S => ⟨rfl, k h1 p S⟩)
    · have hlt : ¬ (5 ^ tn (T 0 1) + 63) / 64 ≤ xN h0 (xR h0 49 5) := fun q => y (nI_le q (by omega))
      have p := gr_hx (q := (49, 5, 4, 52)) (n := 245) M.1 (by decide) (by show 2 * xN h0 (xR h0 49 5) ≤ 245; omega) (by unfold okL; simp) (by decide)
      have M1 := M.hx p (by decide) (by decide)
      have hr1 : EqR (xI (xgr h0 (49, 5, 4, 52) 245) 39) r := by rw [p.at M.1 (by decide) (by decide) (by decide) (by decide)]; exact hr
      have rm1 := p.2.2.2.2.1 rm
      have l5 : xN (xgr h0 (49, 5, 4, 52) 245) (xR (xgr h0 (49, 5, 4, 52) 245) 49 5) = 245 := by
        have := gr_len (n := 245) M.1 (q := (49, 5, 4, 52)) (q' := (49, 5, 4, 52)) (by decide) (by decide)
        rw [if_pos rfl] at this
        exact this
      show Ev 88 53 _ [] (xgr h0 (49, 5, 4, 52) 245) _
      refine l_fs53 M1 hL hr1 rm1 (by rw [l5]; omega) (fun h1 q S => ⟨rfl, k h1 ?_ S⟩)
      exact (p.mono (by decide) (by decide) (fun q hq => gk_lt M.1 q (by rw [List.mem_singleton.mp hq]; decide))).tr q
  · rcases W with e | W
    · exact absurd e z
    · exact ⟨rfl, k h0 (Hx.rf M.1) W⟩
theorem l_place {h : XH} {x : Int64} {i : Nat} (hs : Sh h) (hi : i < cnt (bX (uL x)) 64) (kk : ∀ j, j < 64 → bX (uL x) j = true → cnt (bX (uL x)) j = i → Q (.int (nI j)) h) : ∀ (m b n : Nat), b + m = 64 → n + cnt (bX (uL x)) b = i → Ev 96 5 [.long x, .null, .null, .int (nI n), .int (nI b)] [] h Q := by
  have hc := cnt_le (f := bX (uL x)) 64
  intro m
  induction m with
  | zero =>
    intro b n hm hn
    rw [show b = 64 by omega] at hn
    omega
  | succ m ih =>
    intro b n hm hn
    have hb := bit64 (x := x) (j := b) (by omega)
    have ec : cnt (bX (uL x)) (b + 1) = if bX (uL x) b then cnt (bX (uL x)) b + 1 else cnt (bX (uL x)) b := rfl
    refine B_96_5 hs ⟨fun z => absurd z (nI_ge (a := b) (b := 64) (by omega) (by decide)), fun _ => ⟨fun z => ?_, fun z => ?_⟩⟩
    · rw [if_neg (fun q => z (hb.mpr q))] at ec
      rw [nI_1]
      exact ih (b + 1) n (by omega) (by omega)
    · have q := hb.mp (Classical.not_not.mp z)
      rw [if_pos q] at ec
      refine ⟨fun y => ?_, fun y => ?_⟩
      · have n0 : n ≠ 0 := fun e => y (by rw [e]; rfl)
        rw [nI_1, show nI n + (-1) = nI (n - 1) from z_m1 (by omega)]
        exact ih (b + 1) (n - 1) (by omega) (by omega)
      · have n0 : n = 0 := (nI_eq (a := n) (b := 0) (by omega) (by decide)).mp (Classical.not_not.mp y)
        exact kk b (by omega) q (by omega)
theorem l_numOf {h : XH} {i : Nat} (M : CM T c h) (S : SOn T r h) (hl : xN h (xR h 49 5) < 1000) (hi : i < 2 ^ 31) (kk : Q (.int (selP (stP T r) (nI i) (5 ^ tn (T 0 1)) 0 0)) h) : ∀ (m b : Nat), b + m = xN h (xR h 49 5) → cntP (stP T r) (64 * b) ≤ i → Ev 94 4 [.ref 49, .int (nI i), .int (nI (cntP (stP T r) (64 * b))), .int (nI b), .null] [] h Q := by
  have p6 := M.p6
  have h56 : 5 ^ tn (T 0 1) ≤ 15625 := Nat.pow_le_pow_right (n := 5) (by decide) p6
  obtain ⟨s0, s1, s2, s3⟩ := S
  have none : cntP (stP T r) (5 ^ tn (T 0 1)) ≤ i → Q (.int (-1)) h := by
    intro q
    rw [selP_n hi (5 ^ tn (T 0 1)) 0 0 (by omega) rfl (by rw [Nat.zero_add]; exact q)] at kk
    exact kk
  have hle := cntP_le (P := stP T r) (5 ^ tn (T 0 1))
  intro m
  induction m with
  | zero =>
    intro b hm hb
    have hlb := cntP_le (P := stP T r) (64 * b)
    refine B_94_4 M.1 ⟨fun _ => none ?_, fun z => absurd (nI_le (a := xN h (xR h 49 5)) (b := b) (by omega) (by omega)) z⟩
    have := cntP_mo (P := stP T r) (w := 5 ^ tn (T 0 1)) (64 * b - 5 ^ tn (T 0 1))
    rw [show 5 ^ tn (T 0 1) + (64 * b - 5 ^ tn (T 0 1)) = 64 * b by omega] at this
    omega
  | succ m ih =>
    intro b hm hb
    have hlb := cntP_le (P := stP T r) (64 * b)
    have hw := cntP_w (P := stP T r) (X := uL (xL h (xR h 49 5) b)) (a := 64 * b) 64 (fun j hj => s2 b (by omega) j hj)
    have hc := cnt_le (f := bX (uL (xL h (xR h 49 5) b))) 64
    have ad : nI (cntP (stP T r) (64 * b)) + nI (cnt (bX (uL (xL h (xR h 49 5) b))) 64) = nI (cntP (stP T r) (64 * (b + 1))) := by rw [nI_add, show 64 * (b + 1) = 64 * b + 64 by omega, hw]
    refine B_94_4 M.1 ⟨fun z => absurd z (nI_ge (a := b) (b := xN h (xR h 49 5)) (by omega) (by omega)), fun _ => ⟨fun z => ?_, fun z => ⟨inb (by omega) (by omega), ?_⟩⟩⟩
    · rw [s3] at z
      exact none ((nI_leI (by omega) hi).mp z)
    · rw [tn_nI (show b < 2 ^ 31 by omega)]
      refine c_bits64 M.1 ⟨M.1, fun y => ?_, fun y => ⟨inb (by omega) (by omega), ?_⟩⟩
      · rw [ad] at y ⊢
        have hlc := cntP_le (P := stP T r) (64 * (b + 1))
        rw [nI_1]
        exact ih (b + 1) (by omega) ((nI_leI (by omega) hi).mp y)
      · have hgt : i < cntP (stP T r) (64 * b) + cnt (bX (uL (xL h (xR h 49 5) b))) 64 := by
          have hlc := cntP_le (P := stP T r) (64 * (b + 1))
          rw [ad] at y
          have : ¬ cntP (stP T r) (64 * (b + 1)) ≤ i := fun q => y (nI_le q hi)
          rw [show 64 * (b + 1) = 64 * b + 64 by omega, hw] at this
          omega
        rw [pk_sub hb]
        refine B_96_0 M.1 (l_place (i := i - cntP (stP T r) (64 * b)) M.1 (by omega) (fun j hj hbit hcn => ⟨_, rfl, M.1, ?_⟩) 64 0 _ (by omega) (by show _ + 0 = _; omega))
        have hP : stP T r (64 * b + j) := (s2 b (by omega) j hj).mp hbit
        have hw2 := cntP_w (P := stP T r) (X := uL (xL h (xR h 49 5) b)) (a := 64 * b) j (fun q hq => s2 b (by omega) q (by omega))
        rw [selP_s hP (by omega) (5 ^ tn (T 0 1)) 0 0 (by omega) (by omega) (by have := hP.1; omega) rfl] at kk
        have en : nI b * 64 + nI j = nI (64 * b + j) := by
          rw [show (64 : Int32) = nI 64 from rfl, pk_mul, nI_add, Nat.mul_comm]
        rw [en]
        exact kk
/-- stands, ready to be asked -/
def CS (T : Nat → Nat → Int32) (c : Nat) (r : Nat → Int32) (h : XH) : Prop := CM T c h ∧ EqR (xI h 39) r ∧ tL T ∧ SOk T r h ∧ RmOk h
theorem c_cStands {x : Int32} {h : XH} {K : Int32 → XH → Prop} (A : CS T c r h) (k : ∀ h1, Hx SS [(49, 5)] h h1 → CS T c r h1 → K (oStands T r x) h1) : ClI 87 [.ref 4, .int x] h K := by
  obtain ⟨M, hr, hL, W, rm⟩ := A
  have p6 := M.p6
  have h56 : 5 ^ tn (T 0 1) ≤ 15625 := Nat.pow_le_pow_right (n := 5) (by decide) p6
  unfold oStands at k
  refine B_87_0 M.1 ⟨fun z => ?_, fun z => ?_⟩
  · rw [if_neg (Int32.not_lt.mpr z)] at k
    refine c_fillS M hL hr W rm (fun h1 p S => ⟨p.1, ?_⟩)
    have M1 := M.hx p (by decide) (by decide)
    have rm1 := p.2.2.2.2.1 rm
    have A1 : CS T c r h1 := ⟨M1, by rw [p.at M.1 (by decide) (by decide) (by decide) (by decide)]; exact hr, hL, Or.inr S, rm1⟩
    have k := k h1 p A1
    refine ⟨fun y => ?_, fun y => ?_⟩
    · have x0 : ¬ x < 0 := by
        intro q
        apply y
        apply Int32.le_antisymm ?_ z
        have q' := Int32.lt_iff_toInt_lt.mp q
        have z' := Int32.le_iff_toInt_le.mp z
        apply Int32.le_iff_toInt_le.mpr
        have e1 : (-1 : Int32).toInt = -1 := by decide
        have e2 : (0 : Int32).toInt = 0 := by decide
        omega
      obtain ⟨i, hi, rfl⟩ := nI_of x0
      refine B_94_0 M1.1 (l_numOf M1 S (by have := len_49 rm1; omega) hi ⟨_, rfl, M1.1, _, rfl, k⟩ (xN h1 (xR h1 49 5)) 0 (by omega) (Nat.zero_le _))
    · have y := Classical.not_not.mp y
      subst y
      rw [selP_m (5 ^ tn (T 0 1)) 0 0 (by omega) rfl, Nat.zero_add] at k
      rw [S.2.2.2]
      exact ⟨_, rfl, k⟩
  · rw [if_pos (Int32.not_le.mp z)] at k
    exact ⟨_, rfl, k h (Hx.rf M.1) ⟨M, hr, hL, W, rm⟩⟩
end ST

/-! THE REFERENCE: longest, changed, shade, again, hopes -/
abbrev SR : List Nat := [106, 107, 109, 110, 111, 112]
section RH
variable {T : Nat → Nat → Int32} {l : Nat} {r : Nat → Int32} {h0 h : XH} {Q : Value → XH → Prop} {p n : Nat}
theorem c_isLong {x : Int32} {K : Int32 → XH → Prop} (hs : Sh h) (k1 : ∀ j, j < 301 → x = nI j → K (nI 1) h) (k0 : (x < 0 ∨ nI 301 ≤ x) → K (nI 0) h) : ClI 229 [.int x] h K := by
  refine B_229_0 hs (c_in hs (fun z y => ⟨hs, Or.inr rfl, _, rfl, ?_⟩) (fun q => ⟨hs, Or.inl rfl, _, rfl, k0 ?_⟩))
  · exact in_n (n := 301) (x := x) (by decide) (fun j hj q => k1 j hj q) (fun q => q.elim (fun q => absurd q z) (fun q => absurd ((gt_n (n := 300) z (by decide)).mpr q) y))
  · rcases q with q | q
    · exact Or.inl q
    · by_cases z : x < 0
      · exact Or.inl z
      · exact Or.inr ((gt_n (n := 300) z (by decide)).mp q)
theorem c_inM {x : Int32} {m : Nat} {K : Int32 → XH → Prop} (hs : Sh h) (hm : m + 1 < 2 ^ 31) (k1 : ∀ j, j < m + 1 → x = nI j → K (nI 1) h) (k0 : (x < 0 ∨ nI (m + 1) ≤ x) → K (nI 0) h) : ClI 207 [.int x, .int (nI 0), .int (nI m)] h K := by
  refine c_in hs (fun z y => ?_) (fun q => k0 ?_)
  · exact in_n (n := m + 1) (x := x) hm (fun j hj q => k1 j hj q) (fun q => q.elim (fun q => absurd q z) (fun q => absurd ((gt_n z hm).mpr q) y))
  · rcases q with q | q
    · exact Or.inl q
    · by_cases z : x < 0
      · exact Or.inl z
      · exact Or.inr ((gt_n z hm).mp q)
theorem l_rlong (M : RM T l h0) (hp : p < tn (T 0 1)) (hn : n ≤ 300) (e61 : xI h0 69 61 = T 0 3) : ∀ (k d most run : Nat) (r : Nat → Int32) (h : XH), d + k = n + 1 → run ≤ d → most ≤ d → Gx SR [58] h0 h → rq (xI h 109) r → rOk T r → (∀ h1, Gx SR [58] h0 h1 → Q (.int (aLong T (T 0 3) p k most run r)) h1) → Ev 228 29 [.ref 69, .int (nI p), .int (nI n), .int (nI most), .int (nI run), .int (nI d)] [] h Q := by
  have p6 := M.p6
  intro k
  induction k with
  | zero =>
    intro d most run r h hk _ _ g hr hro kk
    refine B_228_29 (g.sh M.1 (by decide)) ?_
    try simp (disch := omega) only [lit, tn_nI, z_inb, nI_add, pk_mul, z_le, z_nle, z_lt, z_nlt, z_ne, z_m1, pk_sub, xI_ss, xI_sd, xI_n, eq_self, true_and, and_true, and_self, not_true_eq_false, not_false_eq_true, false_implies, true_implies, implies_true, Classical.not_not, forall_const, true_or, or_true, false_or, or_false, false_and, and_false, if_true, if_false, ite_true, ite_false, reduceIte, reduceCtorEq]
    exact kk h g
  | succ k ih =>
    intro d most run r h hk h1 h2 g hr hro kk
    have M' := M.gx g (by decide) (by decide)
    have e61' := (g.f (j := 61) (by decide)).trans e61
    refine B_228_29 M'.1 ?_
    try simp (disch := omega) only [lit, tn_nI, z_inb, nI_add, pk_mul, z_le, z_nle, z_lt, z_nlt, z_ne, z_m1, pk_sub, xI_ss, xI_sd, xI_n, eq_self, true_and, and_true, and_self, not_true_eq_false, not_false_eq_true, false_implies, true_implies, implies_true, Classical.not_not, forall_const, true_or, or_true, false_or, or_false, false_and, and_false, if_true, if_false, ite_true, ite_false, reduceIte, reduceCtorEq]
    unfold aLong at kk
    refine c_black M'.1 hr (by omega) (fun z => ⟨M'.1, ?_⟩) (fun z => ⟨M'.1, ?_⟩)
    · rw [if_pos z] at kk
      try simp (disch := omega) only [lit, tn_nI, z_inb, nI_add, pk_mul, z_le, z_nle, z_lt, z_nlt, z_ne, z_m1, pk_sub, xI_ss, xI_sd, xI_n, eq_self, true_and, and_true, and_self, not_true_eq_false, not_false_eq_true, false_implies, true_implies, implies_true, Classical.not_not, forall_const, true_or, or_true, false_or, or_false, false_and, and_false, if_true, if_false, ite_true, ite_false, reduceIte, reduceCtorEq]
      by_cases q : most < run + 1
      · rw [if_pos q] at kk
        try simp (disch := omega) only [lit, tn_nI, z_inb, nI_add, pk_mul, z_le, z_nle, z_lt, z_nlt, z_ne, z_m1, pk_sub, xI_ss, xI_sd, xI_n, eq_self, true_and, and_true, and_self, not_true_eq_false, not_false_eq_true, false_implies, true_implies, implies_true, Classical.not_not, forall_const, true_or, or_true, false_or, or_false, false_and, and_false, if_true, if_false, ite_true, ite_false, reduceIte, reduceCtorEq]
        exact c_dayGoes M' hr hro e61' (fun h1 g1 hr1 => ⟨g1.sh M'.1 (by decide), ih (d + 1) _ _ _ h1 (by omega) (by omega) (by omega) (g.tr g1) hr1 (rOk_day M.2.2.2 hro) kk⟩)
      · rw [if_neg q] at kk
        try simp (disch := omega) only [lit, tn_nI, z_inb, nI_add, pk_mul, z_le, z_nle, z_lt, z_nlt, z_ne, z_m1, pk_sub, xI_ss, xI_sd, xI_n, eq_self, true_and, and_true, and_self, not_true_eq_false, not_false_eq_true, false_implies, true_implies, implies_true, Classical.not_not, forall_const, true_or, or_true, false_or, or_false, false_and, and_false, if_true, if_false, ite_true, ite_false, reduceIte, reduceCtorEq]
        exact c_dayGoes M' hr hro e61' (fun h1 g1 hr1 => ⟨g1.sh M'.1 (by decide), ih (d + 1) _ _ _ h1 (by omega) (by omega) (by omega) (g.tr g1) hr1 (rOk_day M.2.2.2 hro) kk⟩)
    · rw [if_neg z] at kk
      try simp (disch := omega) only [lit, tn_nI, z_inb, nI_add, pk_mul, z_le, z_nle, z_lt, z_nlt, z_ne, z_m1, pk_sub, xI_ss, xI_sd, xI_n, eq_self, true_and, and_true, and_self, not_true_eq_false, not_false_eq_true, false_implies, true_implies, implies_true, Classical.not_not, forall_const, true_or, or_true, false_or, or_false, false_and, and_false, if_true, if_false, ite_true, ite_false, reduceIte, reduceCtorEq]
      exact c_dayGoes M' hr hro e61' (fun h1 g1 hr1 => ⟨g1.sh M'.1 (by decide), ih (d + 1) most 0 _ h1 (by omega) (by omega) (by omega) (g.tr g1) hr1 (rOk_day M.2.2.2 hro) kk⟩)
theorem c_rLong {x y : Int32} {K : Int32 → XH → Prop} (M : RM T l h) (hr : rq (xI h 108) r) (hro : rOk T r) (k : ∀ h1, Gx SR [58, 61] h h1 → K (opN x (tn (T 0 1)) (-1) (fun p => opN y 301 (-1) (fun n => aLong T (T 0 3) p (n + 1) 0 0 r))) h1) : ClI 228 [.ref 69, .int x, .int y] h K := by
  have p6 := M.p6
  refine B_228_0 M.1 (c_rPage M (fun p hp e => ⟨M.1, ?_⟩) (fun q => ⟨M.1, ?_⟩))
  · subst e
    rw [opN_1 hp (by omega)] at k
    try simp (disch := omega) only [lit, tn_nI, z_inb, nI_add, pk_mul, z_le, z_nle, z_lt, z_nlt, z_ne, z_m1, pk_sub, xI_ss, xI_sd, xI_n, eq_self, true_and, and_true, and_self, not_true_eq_false, not_false_eq_true, false_implies, true_implies, implies_true, Classical.not_not, forall_const, true_or, or_true, false_or, or_false, false_and, and_false, if_true, if_false, ite_true, ite_false, reduceIte, reduceCtorEq]
    refine c_isLong M.1 (fun n hn e => ⟨M.1, ?_⟩) (fun q => ⟨M.1, ?_⟩)
    · subst e
      rw [opN_1 hn (by omega)] at k
      try simp (disch := omega) only [lit, tn_nI, z_inb, nI_add, pk_mul, z_le, z_nle, z_lt, z_nlt, z_ne, z_m1, pk_sub, xI_ss, xI_sd, xI_n, eq_self, true_and, and_true, and_self, not_true_eq_false, not_false_eq_true, false_implies, true_implies, implies_true, Classical.not_not, forall_const, true_or, or_true, false_or, or_false, false_and, and_false, if_true, if_false, ite_true, ite_false, reduceIte, reduceCtorEq]
      refine c_copies M hr (fun h1 g1 hr1 e61 => ⟨g1.sh M.1 (by decide), ?_⟩)
      have M1 := M.gx g1 (by decide) (by decide)
      exact l_rlong M1 hp (by omega) e61 (n + 1) 0 0 0 r h1 (by omega) (by omega) (by omega) Gx.rf hr1 hro (fun h2 g2 => ⟨_, rfl, k h2 (g1.trm g2 (by decide) (by decide) (by decide) (by decide))⟩)
    · rw [opN_0 q] at k
      try simp (disch := omega) only [lit, tn_nI, z_inb, nI_add, pk_mul, z_le, z_nle, z_lt, z_nlt, z_ne, z_m1, pk_sub, xI_ss, xI_sd, xI_n, eq_self, true_and, and_true, and_self, not_true_eq_false, not_false_eq_true, false_implies, true_implies, implies_true, Classical.not_not, forall_const, true_or, or_true, false_or, or_false, false_and, and_false, if_true, if_false, ite_true, ite_false, reduceIte, reduceCtorEq]
      exact ⟨_, rfl, k h Gx.rf⟩
  · rw [opN_0 q] at k
    try simp (disch := omega) only [lit, tn_nI, z_inb, nI_add, pk_mul, z_le, z_nle, z_lt, z_nlt, z_ne, z_m1, pk_sub, xI_ss, xI_sd, xI_n, eq_self, true_and, and_true, and_self, not_true_eq_false, not_false_eq_true, false_implies, true_implies, implies_true, Classical.not_not, forall_const, true_or, or_true, false_or, or_false, false_and, and_false, if_true, if_false, ite_true, ite_false, reduceIte, reduceCtorEq]
    exact ⟨_, rfl, k h Gx.rf⟩
theorem c_rShade {x y : Int32} {K : Int32 → XH → Prop} (M : RM T l h) (hr : rq (xI h 108) r) (hro : rOk T r) (k : ∀ h1, Gx SR [58, 61] h h1 → K (opN x (tn (T 0 1)) (-1) (fun p => opN y 301 (-1) (fun n => dN T (T 0 3) n r (8 + p)))) h1) : ClI 231 [.ref 69, .int x, .int y] h K := by
  have p6 := M.p6
  refine B_231_0 M.1 (c_rPage M (fun p hp e => ⟨M.1, ?_⟩) (fun q => ⟨M.1, ?_⟩))
  · subst e
    rw [opN_1 hp (by omega)] at k
    try simp (disch := omega) only [lit, tn_nI, z_inb, nI_add, pk_mul, z_le, z_nle, z_lt, z_nlt, z_ne, z_m1, pk_sub, xI_ss, xI_sd, xI_n, eq_self, true_and, and_true, and_self, not_true_eq_false, not_false_eq_true, false_implies, true_implies, implies_true, Classical.not_not, forall_const, true_or, or_true, false_or, or_false, false_and, and_false, if_true, if_false, ite_true, ite_false, reduceIte, reduceCtorEq]
    refine c_isLong M.1 (fun n hn e => ⟨M.1, ?_⟩) (fun q => ⟨M.1, ?_⟩)
    · subst e
      rw [opN_1 hn (by omega)] at k
      try simp (disch := omega) only [lit, tn_nI, z_inb, nI_add, pk_mul, z_le, z_nle, z_lt, z_nlt, z_ne, z_m1, pk_sub, xI_ss, xI_sd, xI_n, eq_self, true_and, and_true, and_self, not_true_eq_false, not_false_eq_true, false_implies, true_implies, implies_true, Classical.not_not, forall_const, true_or, or_true, false_or, or_false, false_and, and_false, if_true, if_false, ite_true, ite_false, reduceIte, reduceCtorEq]
      refine c_copies M hr (fun h1 g1 hr1 e61 => ⟨g1.sh M.1 (by decide), ?_⟩)
      have M1 := M.gx g1 (by decide) (by decide)
      refine c_goes (by omega) M1 e61 hr1 hro (fun h2 g2 hr2 => ⟨g2.sh M1.1 (by decide), ?_⟩)
      have e := rq_p hr2 (p := p) (by omega)
      try simp (disch := omega) only [lit, tn_nI, z_inb, nI_add, pk_mul, z_le, z_nle, z_lt, z_nlt, z_ne, z_m1, pk_sub, xI_ss, xI_sd, xI_n, eq_self, true_and, and_true, and_self, not_true_eq_false, not_false_eq_true, false_implies, true_implies, implies_true, Classical.not_not, forall_const, true_or, or_true, false_or, or_false, false_and, and_false, if_true, if_false, ite_true, ite_false, reduceIte, reduceCtorEq, e]
      exact ⟨_, rfl, k h2 (g1.trm g2 (by decide) (by decide) (by decide) (by decide))⟩
    · rw [opN_0 q] at k
      try simp (disch := omega) only [lit, tn_nI, z_inb, nI_add, pk_mul, z_le, z_nle, z_lt, z_nlt, z_ne, z_m1, pk_sub, xI_ss, xI_sd, xI_n, eq_self, true_and, and_true, and_self, not_true_eq_false, not_false_eq_true, false_implies, true_implies, implies_true, Classical.not_not, forall_const, true_or, or_true, false_or, or_false, false_and, and_false, if_true, if_false, ite_true, ite_false, reduceIte, reduceCtorEq]
      exact ⟨_, rfl, k h Gx.rf⟩
  · rw [opN_0 q] at k
    try simp (disch := omega) only [lit, tn_nI, z_inb, nI_add, pk_mul, z_le, z_nle, z_lt, z_nlt, z_ne, z_m1, pk_sub, xI_ss, xI_sd, xI_n, eq_self, true_and, and_true, and_self, not_true_eq_false, not_false_eq_true, false_implies, true_implies, implies_true, Classical.not_not, forall_const, true_or, or_true, false_or, or_false, false_and, and_false, if_true, if_false, ite_true, ite_false, reduceIte, reduceCtorEq]
    exact ⟨_, rfl, k h Gx.rf⟩
theorem l_rchg (M : RM T l h) (hr : rq (xI h 108) r) (hr2 : rq (xI h 109) (dN T (T 0 3) n r)) (kk : Q (.int (aChg T r n)) h) : ∀ (k p : Nat), p + k = tn (T 0 1) → Ev 230 22 [.ref 69, .null, .int (bor (fun p => if dN T (T 0 3) n r (8 + p) = r (8 + p) then 0 else bt p) p), .int (nI p)] [] h Q := by
  have p6 := M.p6
  have l2 := M.l2
  have e1 := M.np
  have e18 := M.2.1
  intro k
  induction k with
  | zero =>
    intro p hk
    refine B_230_22 M.1 ?_
    try simp (disch := omega) only [lit, tn_nI, z_inb, nI_add, pk_mul, z_le, z_nle, z_lt, z_nlt, z_ne, z_m1, pk_sub, xI_ss, xI_sd, xI_n, eq_self, true_and, and_true, and_self, not_true_eq_false, not_false_eq_true, false_implies, true_implies, implies_true, Classical.not_not, forall_const, true_or, or_true, false_or, or_false, false_and, and_false, if_true, if_false, ite_true, ite_false, reduceIte, reduceCtorEq, e18, e1]
    rw [show p = tn (T 0 1) by omega]
    exact kk
  | succ k ih =>
    intro p hk
    have e2 := rq_p hr (p := p) (by omega)
    have e3 := rq_p hr2 (p := p) (by omega)
    refine B_230_22 M.1 ?_
    try simp (disch := omega) only [lit, tn_nI, z_inb, nI_add, pk_mul, z_le, z_nle, z_lt, z_nlt, z_ne, z_m1, pk_sub, xI_ss, xI_sd, xI_n, eq_self, true_and, and_true, and_self, not_true_eq_false, not_false_eq_true, false_implies, true_implies, implies_true, Classical.not_not, forall_const, true_or, or_true, false_or, or_false, false_and, and_false, if_true, if_false, ite_true, ite_false, reduceIte, reduceCtorEq, e18, e1, e2, e3]
    have nx := ih (p + 1) (by omega)
    have eb : bor (fun p => if dN T (T 0 3) n r (8 + p) = r (8 + p) then 0 else bt p) (p + 1) = bor (fun p => if dN T (T 0 3) n r (8 + p) = r (8 + p) then 0 else bt p) p ||| (if dN T (T 0 3) n r (8 + p) = r (8 + p) then 0 else bt p) := rfl
    refine ⟨fun z => ?_, fun z => ?_⟩
    · rw [eb, if_pos z, Int32.or_zero] at nx; exact nx
    · rw [eb, if_neg z] at nx; exact nx
theorem c_rChg {x : Int32} {K : Int32 → XH → Prop} (M : RM T l h) (hr : rq (xI h 108) r) (hro : rOk T r) (k : ∀ h1, Gx SR [58, 61] h h1 → K (opN x 301 (-1) (fun n => aChg T r n)) h1) : ClI 230 [.ref 69, .int x] h K := by
  refine B_230_0 M.1 (c_isLong M.1 (fun n hn e => ⟨M.1, ?_⟩) (fun q => ⟨M.1, ?_⟩))
  · subst e
    rw [opN_1 hn (by omega)] at k
    try simp (disch := omega) only [lit, tn_nI, z_inb, nI_add, pk_mul, z_le, z_nle, z_lt, z_nlt, z_ne, z_m1, pk_sub, xI_ss, xI_sd, xI_n, eq_self, true_and, and_true, and_self, not_true_eq_false, not_false_eq_true, false_implies, true_implies, implies_true, Classical.not_not, forall_const, true_or, or_true, false_or, or_false, false_and, and_false, if_true, if_false, ite_true, ite_false, reduceIte, reduceCtorEq]
    refine c_copies M hr (fun h1 g1 hr1 e61 => ⟨g1.sh M.1 (by decide), ?_⟩)
    have M1 := M.gx g1 (by decide) (by decide)
    refine c_goes (by omega) M1 e61 hr1 hro (fun h2 g2 hr2 => ⟨g2.sh M1.1 (by decide), ?_⟩)
    have M2 := M1.gx g2 (by decide) (by decide)
    have hr3 : rq (xI h2 108) r := by rw [g2.at (by decide) (by decide), g1.at (by decide) (by decide)]; exact hr
    exact l_rchg M2 hr3 hr2 ⟨_, rfl, k h2 (g1.trm g2 (by decide) (by decide) (by decide) (by decide))⟩ (tn (T 0 1)) 0 (by omega)
  · rw [opN_0 q] at k
    try simp (disch := omega) only [lit, tn_nI, z_inb, nI_add, pk_mul, z_le, z_nle, z_lt, z_nlt, z_ne, z_m1, pk_sub, xI_ss, xI_sd, xI_n, eq_self, true_and, and_true, and_self, not_true_eq_false, not_false_eq_true, false_implies, true_implies, implies_true, Classical.not_not, forall_const, true_or, or_true, false_or, or_false, false_and, and_false, if_true, if_false, ite_true, ite_false, reduceIte, reduceCtorEq]
    exact ⟨_, rfl, k h Gx.rf⟩
/-- facts and shades as one number -/
def stNum (T : Nat → Nat → Int32) (r : Nat → Int32) (d : Nat) : Nat := 15625 * wNow T (dN T (T 0 3) d r) + num (rdg (dN T (T 0 3) d r)) 6
theorem stNum_lt (t : tA T) (hro : rOk T r) (d : Nat) : stNum T r d < 2 ^ 31 := by
  have h1 := wNow_lt t.n (rOk_dN t (seed := T 0 3) d r hro)
  have h2 : wN T ≤ 2000 := t.w.1
  have h3 := num_r6 (rOk_dN t (seed := T 0 3) d r hro).1
  unfold stNum
  omega
theorem stNum_eq (t : tA T) (hro : rOk T r) (i j : Nat) : stNum T r i = stNum T r j ↔ (num (rdg (dN T (T 0 3) i r)) 6 = num (rdg (dN T (T 0 3) j r)) 6 ∧ wNow T (dN T (T 0 3) i r) = wNow T (dN T (T 0 3) j r)) := by
  have h3 := num_r6 (rOk_dN t (seed := T 0 3) i r hro).1
  have h4 := num_r6 (rOk_dN t (seed := T 0 3) j r hro).1
  unfold stNum
  omega
abbrev SG : List Nat := [106, 107, 109, 110, 111, 112, 114]
theorem l_rag1 {w j : Nat} (hw : w < 2) (hj : j ≤ 300) (t : tA T) (hro : rOk T r) (hs : Sh h) (h14 : ∀ i, i ≤ j → xI h 114 i = nI (stNum T r i)) (kf : ∀ i, aFst T r j j 0 = some i → Q (.int (if w = 0 then nI j else nI i)) h) (kn : aFst T r j j 0 = none → Ev 232 45 [.ref 69, .int (nI w), .int (nI j), .int (nI j)] [] h Q) :
    ∀ (k i : Nat), i + k = j → aFst T r j j 0 = aFst T r j k i → Ev 232 45 [.ref 69, .int (nI w), .int (nI j), .int (nI i)] [] h Q := by
  intro k
  induction k with
  | zero => intro i hk e; rw [show i = j by omega]; exact kn e
  | succ k ih =>
    intro i hk e
    have ei := h14 i (by omega)
    have ej := h14 j (Nat.le_refl _)
    refine B_232_45 hs ?_
    try simp (disch := omega) only [lit, tn_nI, z_inb, nI_add, pk_mul, z_le, z_nle, z_lt, z_nlt, z_ne, z_m1, pk_sub, xI_ss, xI_sd, xI_n, eq_self, true_and, and_true, and_self, not_true_eq_false, not_false_eq_true, false_implies, true_implies, implies_true, Classical.not_not, forall_const, true_or, or_true, false_or, or_false, false_and, and_false, if_true, if_false, ite_true, ite_false, reduceIte, reduceCtorEq, ei, ej]
    rw [aFst_s] at e
    by_cases q : stNum T r i = stNum T r j
    · rw [if_pos ((stNum_eq t hro i j).mp q)] at e
      rw [q]
      have k1 := kf i e
      rcases (show w = 0 ∨ w = 1 by omega) with z | z
      · subst z; try simp (disch := omega) only [lit, tn_nI, z_inb, nI_add, pk_mul, z_le, z_nle, z_lt, z_nlt, z_ne, z_m1, pk_sub, xI_ss, xI_sd, xI_n, eq_self, true_and, and_true, and_self, not_true_eq_false, not_false_eq_true, false_implies, true_implies, implies_true, Classical.not_not, forall_const, true_or, or_true, false_or, or_false, false_and, and_false, if_true, if_false, ite_true, ite_false, reduceIte, reduceCtorEq]; exact k1
      · subst z; try simp (disch := omega) only [lit, tn_nI, z_inb, nI_add, pk_mul, z_le, z_nle, z_lt, z_nlt, z_ne, z_m1, pk_sub, xI_ss, xI_sd, xI_n, eq_self, true_and, and_true, and_self, not_true_eq_false, not_false_eq_true, false_implies, true_implies, implies_true, Classical.not_not, forall_const, true_or, or_true, false_or, or_false, false_and, and_false, if_true, if_false, ite_true, ite_false, reduceIte, reduceCtorEq]; exact k1
    · rw [if_neg (fun z => q ((stNum_eq t hro i j).mpr z))] at e
      have z : ¬ nI (stNum T r i) = nI (stNum T r j) := fun z => q ((nI_eq (stNum_lt t hro i) (stNum_lt t hro j)).mp z)
      try simp (disch := omega) only [lit, tn_nI, z_inb, nI_add, pk_mul, z_le, z_nle, z_lt, z_nlt, z_ne, z_m1, pk_sub, xI_ss, xI_sd, xI_n, eq_self, true_and, and_true, and_self, not_true_eq_false, not_false_eq_true, false_implies, true_implies, implies_true, Classical.not_not, forall_const, true_or, or_true, false_or, or_false, false_and, and_false, if_true, if_false, ite_true, ite_false, reduceIte, reduceCtorEq, z]
      exact ih (i + 1) (by omega) e
theorem l_ragain {w : Nat} (hw : w < 2) (M : RM T l h0) (e61 : xI h0 69 61 = T 0 3) (hro : rOk T r) : ∀ (k d : Nat) (h : XH), d + k = 301 → Gx SG [58] h0 h → rq (xI h 109) (dN T (T 0 3) d r) → (∀ i, i < d → xI h 114 i = nI (stNum T r i)) → (∀ h1, Gx SG [58] h0 h1 → Q (.int (aAgain T r w k d)) h1) → Ev 232 17 [.ref 69, .int (nI w), .int (nI d), .null] [] h Q := by
  intro k
  induction k with
  | zero =>
    intro d h hk g hr h14 kk
    refine B_232_17 (g.sh M.1 (by decide)) ?_
    try simp (disch := omega) only [lit, tn_nI, z_inb, nI_add, pk_mul, z_le, z_nle, z_lt, z_nlt, z_ne, z_m1, pk_sub, xI_ss, xI_sd, xI_n, eq_self, true_and, and_true, and_self, not_true_eq_false, not_false_eq_true, false_implies, true_implies, implies_true, Classical.not_not, forall_const, true_or, or_true, false_or, or_false, false_and, and_false, if_true, if_false, ite_true, ite_false, reduceIte, reduceCtorEq]
    exact kk h g
  | succ k ih =>
    intro d h hk g hr h14 kk
    have M' := M.gx g (by decide) (by decide)
    have hrd := rOk_dN M.2.2.2 (seed := T 0 3) d r hro
    refine B_232_17 M'.1 ?_
    try simp (disch := omega) only [lit, tn_nI, z_inb, nI_add, pk_mul, z_le, z_nle, z_lt, z_nlt, z_ne, z_m1, pk_sub, xI_ss, xI_sd, xI_n, eq_self, true_and, and_true, and_self, not_true_eq_false, not_false_eq_true, false_implies, true_implies, implies_true, Classical.not_not, forall_const, true_or, or_true, false_or, or_false, false_and, and_false, if_true, if_false, ite_true, ite_false, reduceIte, reduceCtorEq]
    refine c_wNow M' hr hrd ⟨M'.1, c_shNow6 M' hr hrd.1 ⟨M'.1, ?_⟩⟩
    try simp (disch := omega) only [lit, tn_nI, z_inb, nI_add, pk_mul, z_le, z_nle, z_lt, z_nlt, z_ne, z_m1, pk_sub, xI_ss, xI_sd, xI_n, eq_self, true_and, and_true, and_self, not_true_eq_false, not_false_eq_true, false_implies, true_implies, implies_true, Classical.not_not, forall_const, true_or, or_true, false_or, or_false, false_and, and_false, if_true, if_false, ite_true, ite_false, reduceIte, reduceCtorEq]
    have g1 : Gx SG [58] h0 (xsI h 114 d (nI (stNum T r d))) := g.set (by decide) (by decide)
    have M1 := M.gx g1 (by decide) (by decide)
    have e14 : ∀ i, i ≤ d → xI (xsI h 114 d (nI (stNum T r d))) 114 i = nI (stNum T r i) := fun i hi => by
      by_cases q : i = d
      · subst q; exact xI_ss
      · rw [xI_sd q]; exact h14 i (by omega)
    have hr1 : rq (xI (xsI h 114 d (nI (stNum T r d))) 109) (dN T (T 0 3) d r) := by rw [xI_n (by decide)]; exact hr
    show Ev 232 45 [.ref 69, .int (nI w), .int (nI d), .int (nI 0)] [] (xsI h 114 d (nI (stNum T r d))) Q
    generalize xsI h 114 d (nI (stNum T r d)) = h2 at g1 M1 e14 hr1 ⊢
    refine l_rag1 hw (by omega) M.2.2.2 hro M1.1 e14 (fun i e => ?_) (fun e => ?_) d 0 (by omega) rfl
    · have k1 := kk h2 g1
      unfold aAgain at k1
      rw [e] at k1
      exact k1
    · refine B_232_45 M1.1 ?_
      try simp (disch := omega) only [lit, tn_nI, z_inb, nI_add, pk_mul, z_le, z_nle, z_lt, z_nlt, z_ne, z_m1, pk_sub, xI_ss, xI_sd, xI_n, eq_self, true_and, and_true, and_self, not_true_eq_false, not_false_eq_true, false_implies, true_implies, implies_true, Classical.not_not, forall_const, true_or, or_true, false_or, or_false, false_and, and_false, if_true, if_false, ite_true, ite_false, reduceIte, reduceCtorEq]
      refine c_dayGoes M1 hr1 hrd ((g1.f (by decide)).trans e61) (fun h3 g3 hr3 => ⟨g3.sh M1.1 (by decide), ?_⟩)
      rw [← dN_s] at hr3
      refine ih (d + 1) h3 (by omega) (g1.trm g3 (by decide) (by decide) (by decide) (by decide)) hr3 (fun i hi => by rw [g3.at (by decide) (by decide)]; exact e14 i (by omega)) (fun h4 g4 => ?_)
      have k1 := kk h4 g4
      unfold aAgain at k1
      rw [e] at k1
      exact k1
theorem c_rAgain {x : Int32} {K : Int32 → XH → Prop} (M : RM T l h) (hr : rq (xI h 108) r) (hro : rOk T r) (k : ∀ h1, Gx SG [58, 61] h h1 → K (opN x 2 (-1) (fun w => aAgain T r w 300 1)) h1) : ClI 232 [.ref 69, .int x] h K := by
  refine B_232_0 M.1 (c_inM (m := 1) M.1 (by decide) (fun w hw e => ⟨M.1, ?_⟩) (fun q => ⟨M.1, ?_⟩))
  · subst e
    rw [opN_1 hw (by omega)] at k
    try simp (disch := omega) only [lit, tn_nI, z_inb, nI_add, pk_mul, z_le, z_nle, z_lt, z_nlt, z_ne, z_m1, pk_sub, xI_ss, xI_sd, xI_n, eq_self, true_and, and_true, and_self, not_true_eq_false, not_false_eq_true, false_implies, true_implies, implies_true, Classical.not_not, forall_const, true_or, or_true, false_or, or_false, false_and, and_false, if_true, if_false, ite_true, ite_false, reduceIte, reduceCtorEq]
    refine c_copies M hr (fun h1 g1 hr1 e61 => ⟨g1.sh M.1 (by decide), ?_⟩)
    have M1 := M.gx g1 (by decide) (by decide)
    exact l_ragain hw M1 e61 hro 301 0 h1 (by decide) Gx.rf hr1 (fun i hi => absurd hi (by omega)) (fun h2 g2 => ⟨_, rfl, k h2 (g1.trm g2 (by decide) (by decide) (by decide) (by decide))⟩)
  · rw [opN_0 q] at k
    try simp (disch := omega) only [lit, tn_nI, z_inb, nI_add, pk_mul, z_le, z_nle, z_lt, z_nlt, z_ne, z_m1, pk_sub, xI_ss, xI_sd, xI_n, eq_self, true_and, and_true, and_self, not_true_eq_false, not_false_eq_true, false_implies, true_implies, implies_true, Classical.not_not, forall_const, true_or, or_true, false_or, or_false, false_and, and_false, if_true, if_false, ite_true, ite_false, reduceIte, reduceCtorEq]
    exact ⟨_, rfl, k h Gx.rf⟩
theorem l_rhope {s : Nat} (M : RM T l h0) (hr : rq (xI h0 108) r) (hro : rOk T r) (hs20 : s ≤ 20) (hn : n ≤ 100) (hp : p < tn (T 0 1)) (kk : ∀ h1, Gx SR [58, 61] h0 h1 → Q (.int (nI (cnt (aHope T r p n) s))) h1) :
    ∀ (j k : Nat) (h : XH), k + j = s → Gx SR [58, 61] h0 h → Ev 233 36 [.ref 69, .int (nI p), .int (nI n), .int (nI s), .int (nI (cnt (aHope T r p n) k)), .int (nI k)] [] h Q := by
  have p6 := M.p6
  intro j
  induction j with
  | zero =>
    intro k h hj g
    refine B_233_36 (g.sh M.1 (by decide)) ?_
    try simp (disch := omega) only [lit, tn_nI, z_inb, nI_add, pk_mul, z_le, z_nle, z_lt, z_nlt, z_ne, z_m1, pk_sub, xI_ss, xI_sd, xI_n, eq_self, true_and, and_true, and_self, not_true_eq_false, not_false_eq_true, false_implies, true_implies, implies_true, Classical.not_not, forall_const, true_or, or_true, false_or, or_false, false_and, and_false, if_true, if_false, ite_true, ite_false, reduceIte, reduceCtorEq]
    rw [show k = s by omega]
    exact kk h g
  | succ j ih =>
    intro k h hj g
    have M' := M.gx g (by decide) (by decide)
    have hr' : rq (xI h 108) r := by rw [g.at (by decide) (by decide)]; exact hr
    refine B_233_36 M'.1 ?_
    try simp (disch := omega) only [lit, tn_nI, z_inb, nI_add, pk_mul, z_le, z_nle, z_lt, z_nlt, z_ne, z_m1, pk_sub, xI_ss, xI_sd, xI_n, eq_self, true_and, and_true, and_self, not_true_eq_false, not_false_eq_true, false_implies, true_implies, implies_true, Classical.not_not, forall_const, true_or, or_true, false_or, or_false, false_and, and_false, if_true, if_false, ite_true, ite_false, reduceIte, reduceCtorEq]
    refine c_copies M' hr' (fun h1 g1 hr1 e61 => ⟨g1.sh M'.1 (by decide), ?_⟩)
    try simp (disch := omega) only [lit, tn_nI, z_inb, nI_add, pk_mul, z_le, z_nle, z_lt, z_nlt, z_ne, z_m1, pk_sub, xI_ss, xI_sd, xI_n, eq_self, true_and, and_true, and_self, not_true_eq_false, not_false_eq_true, false_implies, true_implies, implies_true, Classical.not_not, forall_const, true_or, or_true, false_or, or_false, false_and, and_false, if_true, if_false, ite_true, ite_false, reduceIte, reduceCtorEq, e61]
    have g2 : Gx SR [58, 61] h0 (xsI h1 69 61 (T 0 3 + nI k)) := (g.trm g1 (by decide) (by decide) (by decide) (by decide)).fld (by decide)
    have M2 := M.gx g2 (by decide) (by decide)
    refine c_goes (r := r) (seed := T 0 3 + nI k) (by omega) M2 xI_ss (by rw [xI_n (by decide)]; exact hr1) hro (fun h3 g3 hr3 => ⟨g3.sh M2.1 (by decide), ?_⟩)
    have g4 : Gx SR [58, 61] h0 h3 := g2.trm g3 (by decide) (by decide) (by decide) (by decide)
    have hs3 := g4.sh M.1 (by decide)
    have nx := ih (k + 1) h3 (by omega) g4
    have hc := cnt_le (f := aHope T r p n) k
    have eb : cnt (aHope T r p n) (k + 1) = if aHope T r p n k then cnt (aHope T r p n) k + 1 else cnt (aHope T r p n) k := rfl
    refine c_black hs3 hr3 (by omega) (fun z => ⟨hs3, ?_⟩) (fun z => ⟨hs3, ?_⟩)
    · try simp (disch := omega) only [lit, tn_nI, z_inb, nI_add, pk_mul, z_le, z_nle, z_lt, z_nlt, z_ne, z_m1, pk_sub, xI_ss, xI_sd, xI_n, eq_self, true_and, and_true, and_self, not_true_eq_false, not_false_eq_true, false_implies, true_implies, implies_true, Classical.not_not, forall_const, true_or, or_true, false_or, or_false, false_and, and_false, if_true, if_false, ite_true, ite_false, reduceIte, reduceCtorEq]
      rw [eb, if_pos (by unfold aHope; exact decide_eq_true z)] at nx; exact nx
    · try simp (disch := omega) only [lit, tn_nI, z_inb, nI_add, pk_mul, z_le, z_nle, z_lt, z_nlt, z_ne, z_m1, pk_sub, xI_ss, xI_sd, xI_n, eq_self, true_and, and_true, and_self, not_true_eq_false, not_false_eq_true, false_implies, true_implies, implies_true, Classical.not_not, forall_const, true_or, or_true, false_or, or_false, false_and, and_false, if_true, if_false, ite_true, ite_false, reduceIte, reduceCtorEq]
      rw [eb, if_neg (by unfold aHope; rw [decide_eq_false z]; decide)] at nx; exact nx
theorem c_rHope {x y z : Int32} {K : Int32 → XH → Prop} (M : RM T l h) (hr : rq (xI h 108) r) (hro : rOk T r) (k : ∀ h1, Gx SR [58, 61] h h1 → K (oHope T r x y z) h1) : ClI 233 [.ref 69, .int x, .int y, .int z] h K := by
  have p6 := M.p6
  unfold oHope at k
  refine B_233_0 M.1 (c_rPage M (fun p hp e => ⟨M.1, ?_⟩) (fun q => ⟨M.1, ?_⟩))
  · subst e
    rw [opN_1 hp (by omega)] at k
    try simp (disch := omega) only [lit, tn_nI, z_inb, nI_add, pk_mul, z_le, z_nle, z_lt, z_nlt, z_ne, z_m1, pk_sub, xI_ss, xI_sd, xI_n, eq_self, true_and, and_true, and_self, not_true_eq_false, not_false_eq_true, false_implies, true_implies, implies_true, Classical.not_not, forall_const, true_or, or_true, false_or, or_false, false_and, and_false, if_true, if_false, ite_true, ite_false, reduceIte, reduceCtorEq]
    refine c_inM (m := 100) M.1 (by decide) (fun n hn e => ⟨M.1, ?_⟩) (fun q => ⟨M.1, ?_⟩)
    · subst e
      rw [opN_1 hn (by omega)] at k
      try simp (disch := omega) only [lit, tn_nI, z_inb, nI_add, pk_mul, z_le, z_nle, z_lt, z_nlt, z_ne, z_m1, pk_sub, xI_ss, xI_sd, xI_n, eq_self, true_and, and_true, and_self, not_true_eq_false, not_false_eq_true, false_implies, true_implies, implies_true, Classical.not_not, forall_const, true_or, or_true, false_or, or_false, false_and, and_false, if_true, if_false, ite_true, ite_false, reduceIte, reduceCtorEq]
      refine c_in M.1 (fun z1 z2 => ⟨M.1, ?_⟩) (fun q => ⟨M.1, ?_⟩)
      · try simp (disch := omega) only [lit, tn_nI, z_inb, nI_add, pk_mul, z_le, z_nle, z_lt, z_nlt, z_ne, z_m1, pk_sub, xI_ss, xI_sd, xI_n, eq_self, true_and, and_true, and_self, not_true_eq_false, not_false_eq_true, false_implies, true_implies, implies_true, Classical.not_not, forall_const, true_or, or_true, false_or, or_false, false_and, and_false, if_true, if_false, ite_true, ite_false, reduceIte, reduceCtorEq]
        refine in_n (n := 21) (x := z) (by decide) (fun s hs e => ?_) (fun q => ?_)
        · subst e
          rw [opN_1 hs (by omega)] at k
          have s0 : s ≠ 0 := fun q => by subst q; exact z1 (by decide)
          rw [if_neg s0] at k
          exact l_rhope M hr hro (by omega) (by omega) hp (fun h1 g1 => ⟨_, rfl, k h1 g1⟩) s 0 h (by omega) Gx.rf
        · rcases q with q | q
          · exact absurd (Int32.lt_trans q (by decide)) z1
          · exact absurd (Int32.lt_of_lt_of_le (by decide) q) z2
      · try simp (disch := omega) only [lit, tn_nI, z_inb, nI_add, pk_mul, z_le, z_nle, z_lt, z_nlt, z_ne, z_m1, pk_sub, xI_ss, xI_sd, xI_n, eq_self, true_and, and_true, and_self, not_true_eq_false, not_false_eq_true, false_implies, true_implies, implies_true, Classical.not_not, forall_const, true_or, or_true, false_or, or_false, false_and, and_false, if_true, if_false, ite_true, ite_false, reduceIte, reduceCtorEq]
        have k1 := k h Gx.rf
        refine ⟨_, rfl, ?_⟩
        revert k1
        refine in_n (n := 21) (x := z) (by decide) (fun s hs e => ?_) (fun q2 => ?_)
        · subst e
          rw [opN_1 hs (by omega)]
          by_cases s0 : s = 0
          · rw [if_pos s0]; exact fun k1 => k1
          · rcases q with q | q
            · exact absurd q (nI_nlt (b := 1) (by omega) (by omega))
            · exact absurd q (nI_nlt (a := 20) (by omega) (by omega))
        · rw [opN_0 q2]; exact fun k1 => k1
    · rw [opN_0 q] at k
      try simp (disch := omega) only [lit, tn_nI, z_inb, nI_add, pk_mul, z_le, z_nle, z_lt, z_nlt, z_ne, z_m1, pk_sub, xI_ss, xI_sd, xI_n, eq_self, true_and, and_true, and_self, not_true_eq_false, not_false_eq_true, false_implies, true_implies, implies_true, Classical.not_not, forall_const, true_or, or_true, false_or, or_false, false_and, and_false, if_true, if_false, ite_true, ite_false, reduceIte, reduceCtorEq]
      exact ⟨_, rfl, k h Gx.rf⟩
  · rw [opN_0 q] at k
    try simp (disch := omega) only [lit, tn_nI, z_inb, nI_add, pk_mul, z_le, z_nle, z_lt, z_nlt, z_ne, z_m1, pk_sub, xI_ss, xI_sd, xI_n, eq_self, true_and, and_true, and_self, not_true_eq_false, not_false_eq_true, false_implies, true_implies, implies_true, Classical.not_not, forall_const, true_or, or_true, false_or, or_false, false_and, and_false, if_true, if_false, ite_true, ite_false, reduceIte, reduceCtorEq]
    exact ⟨_, rfl, k h Gx.rf⟩
end RH

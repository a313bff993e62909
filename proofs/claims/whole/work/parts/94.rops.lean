/-! THE REFERENCE: what days bring -/
section RO
variable {T : Nat → Nat → Int32} {l : Nat} {r : Nat → Int32} {h0 h : XH} {Q : Value → XH → Prop} {p : Nat}
theorem rq_p {s : Nat → Int32} (hr : rq s r) (hp : p < 6) : s (8 + p) = r (8 + p) := by rw [hr _ (by omega), sw_n (by omega)]
theorem c_black {K : Int32 → XH → Prop} (hs : Sh h) (hr : rq (xI h 109) r) (hp : p < 6) (k1 : r (8 + p) = nI 4 → K (nI 1) h) (k0 : ¬ r (8 + p) = nI 4 → K (nI 0) h) : ClI 226 [.ref 69, .int (nI p)] h K := by
  have e := rq_p hr hp
  refine B_226_0 hs ?_
  try simp (disch := omega) only [lit, tn_nI, z_inb, nI_add, pk_mul, z_le, z_nle, z_lt, z_nlt, z_ne, z_m1, pk_sub, xI_ss, xI_sd, xI_n, eq_self, true_and, and_true, and_self, not_true_eq_false, not_false_eq_true, false_implies, true_implies, implies_true, Classical.not_not, forall_const, true_or, or_true, false_or, or_false, false_and, and_false, if_true, if_false, ite_true, ite_false, reduceIte, reduceCtorEq, e]
  exact ⟨fun z => ⟨_, rfl, k0 z⟩, fun z => ⟨_, rfl, k1 z⟩⟩
/-- WHEN: k days are left, d are gone -/
def aWhen (T : Nat → Nat → Int32) (seed : Int32) (p : Nat) : Nat → Nat → (Nat → Int32) → Int32
  | 0, _, _ => -2
  | k + 1, d, r => if r (8 + p) = nI 4 then nI d else aWhen T seed p k (d + 1) (dayS T seed r)
theorem l_when (M : RM T l h0) (hp : p < tn (T 0 1)) (e61 : xI h0 69 61 = T 0 3) : ∀ (k d : Nat) (r : Nat → Int32) (h : XH), d + k = 301 → Gx [106, 107, 109, 110, 111, 112] [58] h0 h → rq (xI h 109) r → rOk T r → (∀ h1, Gx [106, 107, 109, 110, 111, 112] [58] h0 h1 → Q (.int (aWhen T (T 0 3) p k d r)) h1) → Ev 225 16 [.ref 69, .int (nI p), .int (nI d)] [] h Q := by
  have p6 := M.p6
  intro k
  induction k with
  | zero =>
    intro d r h hk g hr hro kk
    refine B_225_16 (g.sh M.1 (by decide)) ?_
    try simp (disch := omega) only [lit, tn_nI, z_inb, nI_add, pk_mul, z_le, z_nle, z_lt, z_nlt, z_ne, z_m1, pk_sub, xI_ss, xI_sd, xI_n, eq_self, true_and, and_true, and_self, not_true_eq_false, not_false_eq_true, false_implies, true_implies, implies_true, Classical.not_not, forall_const, true_or, or_true, false_or, or_false, false_and, and_false, if_true, if_false, ite_true, ite_false, reduceIte, reduceCtorEq]
    exact kk h g
  | succ k ih =>
    intro d r h hk g hr hro kk
    have M' := M.gx g (by decide) (by decide)
    refine B_225_16 M'.1 ?_
    try simp (disch := omega) only [lit, tn_nI, z_inb, nI_add, pk_mul, z_le, z_nle, z_lt, z_nlt, z_ne, z_m1, pk_sub, xI_ss, xI_sd, xI_n, eq_self, true_and, and_true, and_self, not_true_eq_false, not_false_eq_true, false_implies, true_implies, implies_true, Classical.not_not, forall_const, true_or, or_true, false_or, or_false, false_and, and_false, if_true, if_false, ite_true, ite_false, reduceIte, reduceCtorEq]
    unfold aWhen at kk
    refine c_black M'.1 hr (by omega) (fun z => ⟨M'.1, ?_⟩) (fun z => ⟨M'.1, ?_⟩)
    · rw [if_pos z] at kk
      try simp (disch := omega) only [lit, tn_nI, z_inb, nI_add, pk_mul, z_le, z_nle, z_lt, z_nlt, z_ne, z_m1, pk_sub, xI_ss, xI_sd, xI_n, eq_self, true_and, and_true, and_self, not_true_eq_false, not_false_eq_true, false_implies, true_implies, implies_true, Classical.not_not, forall_const, true_or, or_true, false_or, or_false, false_and, and_false, if_true, if_false, ite_true, ite_false, reduceIte, reduceCtorEq]
      exact kk h g
    · rw [if_neg z] at kk
      try simp (disch := omega) only [lit, tn_nI, z_inb, nI_add, pk_mul, z_le, z_nle, z_lt, z_nlt, z_ne, z_m1, pk_sub, xI_ss, xI_sd, xI_n, eq_self, true_and, and_true, and_self, not_true_eq_false, not_false_eq_true, false_implies, true_implies, implies_true, Classical.not_not, forall_const, true_or, or_true, false_or, or_false, false_and, and_false, if_true, if_false, ite_true, ite_false, reduceIte, reduceCtorEq]
      exact c_dayGoes M' hr hro ((g.f (by decide)).trans e61) (fun h1 g1 hr1 => ⟨g1.sh M'.1 (by decide), ih (d + 1) _ h1 (by omega) (g.tr g1) hr1 (rOk_day M.2.2.2 hro) kk⟩)
theorem c_rWhen {x : Int32} {K : Int32 → XH → Prop} (M : RM T l h) (hr : rq (xI h 108) r) (hro : rOk T r) (k1 : ∀ p, p < tn (T 0 1) → x = nI p → ∀ h1, Gx [106, 107, 109, 110, 111, 112] [58, 61] h h1 → K (aWhen T (T 0 3) p 301 0 r) h1) (k0 : (x < 0 ∨ nI (tn (T 0 1)) ≤ x) → K (-1) h) : ClI 225 [.ref 69, .int x] h K := by
  refine B_225_0 M.1 (c_rPage M (fun p hp e => ⟨M.1, ?_⟩) (fun q => ⟨M.1, ?_⟩))
  · subst e
    try simp (disch := omega) only [lit, tn_nI, z_inb, nI_add, pk_mul, z_le, z_nle, z_lt, z_nlt, z_ne, z_m1, pk_sub, xI_ss, xI_sd, xI_n, eq_self, true_and, and_true, and_self, not_true_eq_false, not_false_eq_true, false_implies, true_implies, implies_true, Classical.not_not, forall_const, true_or, or_true, false_or, or_false, false_and, and_false, if_true, if_false, ite_true, ite_false, reduceIte, reduceCtorEq]
    refine c_copies M hr (fun h1 g1 hr1 e61 => ⟨g1.sh M.1 (by decide), ?_⟩)
    have M1 := M.gx g1 (by decide) (by decide)
    exact l_when M1 hp e61 301 0 r h1 (by decide) Gx.rf hr1 hro (fun h2 g2 => ⟨_, rfl, k1 p hp rfl h2 (g1.trm g2 (by decide) (by decide) (by decide) (by decide))⟩)
  · try simp (disch := omega) only [lit, tn_nI, z_inb, nI_add, pk_mul, z_le, z_nle, z_lt, z_nlt, z_ne, z_m1, pk_sub, xI_ss, xI_sd, xI_n, eq_self, true_and, and_true, and_self, not_true_eq_false, not_false_eq_true, false_implies, true_implies, implies_true, Classical.not_not, forall_const, true_or, or_true, false_or, or_false, false_and, and_false, if_true, if_false, ite_true, ite_false, reduceIte, reduceCtorEq]
    exact ⟨_, rfl, k0 q⟩
/-- STAYS -/
def aStay (T : Nat → Nat → Int32) (seed : Int32) (p : Nat) : Nat → Nat → (Nat → Int32) → Int32
  | 0, d, _ => nI d
  | k + 1, d, r => if r (8 + p) = nI 4 then aStay T seed p k (d + 1) (dayS T seed r) else nI d
theorem l_stays (M : RM T l h0) (hp : p < tn (T 0 1)) (e61 : xI h0 69 61 = T 0 3) : ∀ (k d : Nat) (r : Nat → Int32) (h : XH), d + k = 300 → Gx [106, 107, 109, 110, 111, 112] [58] h0 h → rq (xI h 109) r → rOk T r → (∀ h1, Gx [106, 107, 109, 110, 111, 112] [58] h0 h1 → Q (.int (aStay T (T 0 3) p k d r)) h1) → Ev 227 16 [.ref 69, .int (nI p), .int (nI d)] [] h Q := by
  have p6 := M.p6
  intro k
  induction k with
  | zero =>
    intro d r h hk g hr hro kk
    refine B_227_16 (g.sh M.1 (by decide)) ?_
    try simp (disch := omega) only [lit, tn_nI, z_inb, nI_add, pk_mul, z_le, z_nle, z_lt, z_nlt, z_ne, z_m1, pk_sub, xI_ss, xI_sd, xI_n, eq_self, true_and, and_true, and_self, not_true_eq_false, not_false_eq_true, false_implies, true_implies, implies_true, Classical.not_not, forall_const, true_or, or_true, false_or, or_false, false_and, and_false, if_true, if_false, ite_true, ite_false, reduceIte, reduceCtorEq]
    exact kk h g
  | succ k ih =>
    intro d r h hk g hr hro kk
    have M' := M.gx g (by decide) (by decide)
    refine B_227_16 M'.1 ?_
    try simp (disch := omega) only [lit, tn_nI, z_inb, nI_add, pk_mul, z_le, z_nle, z_lt, z_nlt, z_ne, z_m1, pk_sub, xI_ss, xI_sd, xI_n, eq_self, true_and, and_true, and_self, not_true_eq_false, not_false_eq_true, false_implies, true_implies, implies_true, Classical.not_not, forall_const, true_or, or_true, false_or, or_false, false_and, and_false, if_true, if_false, ite_true, ite_false, reduceIte, reduceCtorEq]
    unfold aStay at kk
    refine c_black M'.1 hr (by omega) (fun z => ⟨M'.1, ?_⟩) (fun z => ⟨M'.1, ?_⟩)
    · rw [if_pos z] at kk
      try simp (disch := omega) only [lit, tn_nI, z_inb, nI_add, pk_mul, z_le, z_nle, z_lt, z_nlt, z_ne, z_m1, pk_sub, xI_ss, xI_sd, xI_n, eq_self, true_and, and_true, and_self, not_true_eq_false, not_false_eq_true, false_implies, true_implies, implies_true, Classical.not_not, forall_const, true_or, or_true, false_or, or_false, false_and, and_false, if_true, if_false, ite_true, ite_false, reduceIte, reduceCtorEq]
      exact c_dayGoes M' hr hro ((g.f (by decide)).trans e61) (fun h1 g1 hr1 => ⟨g1.sh M'.1 (by decide), ih (d + 1) _ h1 (by omega) (g.tr g1) hr1 (rOk_day M.2.2.2 hro) kk⟩)
    · rw [if_neg z] at kk
      try simp (disch := omega) only [lit, tn_nI, z_inb, nI_add, pk_mul, z_le, z_nle, z_lt, z_nlt, z_ne, z_m1, pk_sub, xI_ss, xI_sd, xI_n, eq_self, true_and, and_true, and_self, not_true_eq_false, not_false_eq_true, false_implies, true_implies, implies_true, Classical.not_not, forall_const, true_or, or_true, false_or, or_false, false_and, and_false, if_true, if_false, ite_true, ite_false, reduceIte, reduceCtorEq]
      exact kk h g
theorem c_rStays {x : Int32} {K : Int32 → XH → Prop} (M : RM T l h) (hr : rq (xI h 108) r) (hro : rOk T r) (k1 : ∀ p, p < tn (T 0 1) → x = nI p → ∀ h1, Gx [106, 107, 109, 110, 111, 112] [58, 61] h h1 → K (aStay T (T 0 3) p 300 0 r) h1) (k0 : (x < 0 ∨ nI (tn (T 0 1)) ≤ x) → K (-1) h) : ClI 227 [.ref 69, .int x] h K := by
  refine B_227_0 M.1 (c_rPage M (fun p hp e => ⟨M.1, ?_⟩) (fun q => ⟨M.1, ?_⟩))
  · subst e
    try simp (disch := omega) only [lit, tn_nI, z_inb, nI_add, pk_mul, z_le, z_nle, z_lt, z_nlt, z_ne, z_m1, pk_sub, xI_ss, xI_sd, xI_n, eq_self, true_and, and_true, and_self, not_true_eq_false, not_false_eq_true, false_implies, true_implies, implies_true, Classical.not_not, forall_const, true_or, or_true, false_or, or_false, false_and, and_false, if_true, if_false, ite_true, ite_false, reduceIte, reduceCtorEq]
    refine c_copies M hr (fun h1 g1 hr1 e61 => ⟨g1.sh M.1 (by decide), ?_⟩)
    have M1 := M.gx g1 (by decide) (by decide)
    exact l_stays M1 hp e61 300 0 r h1 (by decide) Gx.rf hr1 hro (fun h2 g2 => ⟨_, rfl, k1 p hp rfl h2 (g1.trm g2 (by decide) (by decide) (by decide) (by decide))⟩)
  · try simp (disch := omega) only [lit, tn_nI, z_inb, nI_add, pk_mul, z_le, z_nle, z_lt, z_nlt, z_ne, z_m1, pk_sub, xI_ss, xI_sd, xI_n, eq_self, true_and, and_true, and_self, not_true_eq_false, not_false_eq_true, false_implies, true_implies, implies_true, Classical.not_not, forall_const, true_or, or_true, false_or, or_false, false_and, and_false, if_true, if_false, ite_true, ite_false, reduceIte, reduceCtorEq]
    exact ⟨_, rfl, k0 q⟩
end RO

/-! STANDS: the reference -/
section RS
variable {T : Nat → Nat → Int32} {l : Nat} {r : Nat → Int32} {h0 : XH} {Q : Value → XH → Prop}
abbrev SP : List Nat := [106, 107, 109, 110]
theorem l_rall (M : RM T l h0) {x : Int32} (kk : Ev 224 43 [.ref 69, .int x, .int (nI (5 ^ tn (T 0 1))), .int (nI 0), .int (nI 0), .null] [] h0 Q) : ∀ k p, p + k = tn (T 0 1) → Ev 224 15 [.ref 69, .int x, .int (nI (5 ^ p)), .int (nI p), .null, .null] [] h0 Q := by
  have p6 := M.p6
  have l2 := M.l2
  have e1 := M.np
  have e2 := M.2.1
  intro k
  induction k with
  | zero =>
    intro p hk
    refine B_224_15 M.1 ?_
    try simp (disch := omega) only [lit, tn_nI, z_inb, nI_add, pk_mul, z_le, z_nle, z_lt, z_nlt, z_ne, z_m1, pk_sub, xI_ss, xI_sd, xI_n, eq_self, true_and, and_true, and_self, not_true_eq_false, not_false_eq_true, false_implies, true_implies, implies_true, Classical.not_not, forall_const, true_or, or_true, false_or, or_false, false_and, and_false, if_true, if_false, ite_true, ite_false, reduceIte, reduceCtorEq, e2, e1]
    rw [show p = tn (T 0 1) by omega]
    exact kk
  | succ k ih =>
    intro p hk
    refine B_224_15 M.1 ?_
    try simp (disch := omega) only [lit, tn_nI, z_inb, nI_add, pk_mul, z_le, z_nle, z_lt, z_nlt, z_ne, z_m1, pk_sub, xI_ss, xI_sd, xI_n, eq_self, true_and, and_true, and_self, not_true_eq_false, not_false_eq_true, false_implies, true_implies, implies_true, Classical.not_not, forall_const, true_or, or_true, false_or, or_false, false_and, and_false, if_true, if_false, ite_true, ite_false, reduceIte, reduceCtorEq, e2, e1]
    rw [← Nat.pow_succ]
    exact ih (p + 1) (by omega)
/-- rows alike but for the shades of the pages -/
theorem l_rput {s : Nat} (hsl : s < 2 ^ 31) (M : RM T l h0) (hr : ∃ r', sEq T r r' ∧ rq (xI h0 109) r') {x1 x2 x3 : Int32} (kk : ∀ h1, Gx SP [58] h0 h1 → rq (xI h1 109) (pRow T s r) → ClI 166 [.ref 69] h1 (fun v2 h2 => Sh h2 ∧ (((v2 = 0) → ((¬ x3 = x1) → Ev 224 43 [.ref 69, .int x1, .int x2, .int (x3 + 1), .int (nI (s + 1)), .null] [] h2 Q) ∧ (¬ (¬ x3 = x1) → Q (.int (nI s)) h2)) ∧ (¬ (v2 = 0) → Ev 224 43 [.ref 69, .int x1, .int x2, .int x3, .int (nI (s + 1)), .null] [] h2 Q)))) :
    ∀ (k p : Nat) (h : XH), p + k = tn (T 0 1) → Gx SP [58] h0 h → (∃ r', sEq T r r' ∧ rq (xI h 109) r' ∧ ∀ q, q < p → r' (8 + q) = nI (dg s q)) → Ev 224 52 [.ref 69, .int x1, .int x2, .int x3, .int (nI s), .int (nI p)] [] h Q := by
  have p6 := M.p6
  have l2 := M.l2
  intro k
  induction k with
  | zero =>
    intro p h hk g hq
    have M' := M.gx g (by decide) (by decide)
    have e1 := M'.np
    have e2 := M'.2.1
    obtain ⟨r', q1, q2, q3⟩ := hq
    have er : r' = pRow T s r := by
      funext i
      unfold pRow
      by_cases q : 8 ≤ i ∧ i < 8 + tn (T 0 1)
      · rw [if_pos q, ← q3 (i - 8) (by omega), show 8 + (i - 8) = i by omega]
      · rw [if_neg q, ← q1 i q]
    rw [er] at q2
    have kk := kk h g q2
    refine B_224_52 M'.1 ?_
    rw [e2, tn_nI (by omega), e1]
    refine ⟨inb (by omega) (by decide), fun _ => ?_, fun z => absurd (nI_le (by omega) (by omega)) z⟩
    rw [nI_1]
    exact kk
  | succ k ih =>
    intro p h hk g hq
    have M' := M.gx g (by decide) (by decide)
    have e1 := M'.np
    have e2 := M'.2.1
    obtain ⟨r', q1, q2, q3⟩ := hq
    refine B_224_52 M'.1 ?_
    rw [e2, tn_nI (show l < 2 ^ 31 by omega), e1]
    refine ⟨inb (by omega) (by decide), fun z => absurd z (nI_ge (by omega) (by omega)), fun _ => c_dgR M'.1 hsl (by omega) ⟨M'.1, ?_⟩⟩
    rw [show (8 : Int32) + nI p = nI (8 + p) from nI_add 8 p, tn_nI (show 8 + p < 2 ^ 31 by omega), nI_1]
    refine ⟨inb (by omega) (by decide), ih (p + 1) _ (by omega) (g.set (by decide) (by decide)) ⟨up r' (8 + p) (nI (dg s p)), fun i hi => ?_, fun i hi => ?_, fun q hq' => ?_⟩⟩
    · rw [up_ne (by omega)]; exact q1 i hi
    · by_cases e : i = 8 + p
      · subst e
        rw [xI_ss, sw_n (by omega), up_same]
      · rw [xI_sd e, q2 i hi]
        unfold sw
        by_cases e4 : i = 14
        · rw [if_pos e4, if_pos e4, up_ne (by omega)]
        · rw [if_neg e4, if_neg e4]
          by_cases e5 : i = 15
          · rw [if_pos e5, if_pos e5, up_ne (by omega)]
          · rw [if_neg e5, if_neg e5, up_ne e]
    · by_cases e : q = p
      · subst e; exact up_same
      · rw [up_ne (by omega)]; exact q3 q (by omega)
theorem stR_s {R : Nat → Int32} : sEq T R (stR T R) := fun i hi => by unfold stR; rw [if_neg hi]
theorem l_rst (M : RM T l h0) {i : Int32} (kk : ∀ h1, Gx SP [58] h0 h1 → Q (.int (selP (stP T r) i (5 ^ tn (T 0 1)) 0 0)) h1) :
    ∀ (k s n : Nat) (h : XH), s + k = 5 ^ tn (T 0 1) → n ≤ s → Gx SP [58] h0 h → (∃ r', sEq T r r' ∧ rq (xI h 109) r') → selP (stP T r) i (5 ^ tn (T 0 1)) 0 0 = selP (stP T r) i k s n → Ev 224 43 [.ref 69, .int i, .int (nI (5 ^ tn (T 0 1))), .int (nI n), .int (nI s), .null] [] h Q := by
  have p6 := M.p6
  have h56 : 5 ^ tn (T 0 1) ≤ 15625 := Nat.pow_le_pow_right (n := 5) (by decide) p6
  intro k
  induction k with
  | zero =>
    intro s n h hk hn g hq e
    have M' := M.gx g (by decide) (by decide)
    have kk := kk h g
    rw [e, selP_z] at kk
    refine B_224_43 M'.1 ⟨fun _ => ⟨fun z => ?_, fun z => ?_⟩, fun z => absurd (nI_le (by omega) (by omega)) z⟩
    · rw [if_neg z] at kk; exact kk
    · rw [if_pos (Classical.not_not.mp z)] at kk; exact kk
  | succ k ih =>
    intro s n h hk hn g hq e
    have M' := M.gx g (by decide) (by decide)
    refine B_224_43 M'.1 ⟨fun z => absurd z (nI_ge (by omega) (by omega)), fun _ => ?_⟩
    refine l_rput (r := r) (s := s) (by omega) M' hq (fun h1 g1 e1 => ?_) (tn (T 0 1)) 0 h (by omega) Gx.rf (by
      obtain ⟨r', q1, q2⟩ := hq
      exact ⟨r', q1, q2, fun q hq' => absurd hq' (by omega)⟩)
    have M1 := M'.gx g1 (by decide) (by decide)
    refine c_steps M1 e1 (fun h2 g2 e2 => ⟨(M1.gx g2 (by decide) (by decide)).1, ?_⟩)
    have g3 : Gx SP [58] h0 h2 := (g.tr g1).tr g2
    have hq2 : ∃ r', sEq T r r' ∧ rq (xI h2 109) r' := ⟨_, fun i hi => (pRow_s (s := s) r i hi).trans (stR_s i hi), e2⟩
    have c0 := chg_0 (T := T) (r := pRow T s r) (tn (T 0 1))
    have er : ∀ p, p < tn (T 0 1) → pRow T s r (8 + p) = nI (dg s p) := fun p hp => by
      unfold pRow
      rw [if_pos (by omega), show 8 + p - 8 = p by omega]
    refine ⟨fun z => ?_, fun z => ?_⟩
    · have z0 : chg T (pRow T s r) (tn (T 0 1)) = 0 := by
        rcases chg_01 (T := T) (r := pRow T s r) (tn (T 0 1)) with q | q
        · exact q
        · rw [q] at z; exact absurd z (by decide)
      have hP : stP T r s := ⟨by omega, fun p hp => by rw [c0.mp z0 p hp]; exact er p hp⟩
      rw [selP_1 hP] at e
      refine ⟨fun y => ?_, fun y => ?_⟩
      · rw [if_neg y] at e
        rw [nI_1]
        exact ih (s + 1) (n + 1) h2 (by omega) (by omega) g3 hq2 e
      · rw [if_pos (Classical.not_not.mp y)] at e
        have kk := kk h2 g3
        rw [e] at kk
        exact kk
    · have hP : ¬ stP T r s := fun q => z (by
        rw [c0.mpr (fun p hp => (q.2 p hp).trans (er p hp).symm)]
        rfl)
      rw [selP_0 hP] at e
      exact ih (s + 1) n h2 (by omega) (by omega) g3 hq2 e
theorem c_rStands {x : Int32} {h : XH} {K : Int32 → XH → Prop} (M : RM T l h) (hr : rq (xI h 108) r) (k : ∀ h1, Gx SP [58, 61] h h1 → K (oStands T r x) h1) : ClI 224 [.ref 69, .int x] h K := by
  unfold oStands at k
  refine B_224_0 M.1 ⟨fun z => ?_, fun z => ?_⟩
  · rw [if_neg (Int32.not_lt.mpr z)] at k
    refine c_copies M hr (fun h1 g1 e1 _ => ?_)
    have M1 := M.gx g1 (by decide) (by decide)
    refine ⟨M1.1, l_rall (x := x) M1 (l_rst (r := r) M1 (fun h2 g2 => ⟨_, rfl, k h2 ?_⟩) (5 ^ tn (T 0 1)) 0 0 h1 (by omega) (by omega) Gx.rf ⟨r, fun _ _ => rfl, e1⟩ rfl) (tn (T 0 1)) 0 (by omega)⟩
    exact g1.trm g2 (by decide) (by decide) (by decide) (by decide)
  · rw [if_pos (Int32.not_le.mp z)] at k
    exact ⟨_, rfl, k h Gx.rf⟩
end RS

/-! THE REFERENCE: settling -/
theorem z_neg : (nI 0 + -nI 1 < nI 0) = True := eq_true (by decide)
theorem l_sn {r : Nat → Int32} {h : XH} {Q : Value → XH → Prop} (hs : Sh h) (hr : rq (xI h 109) r) : ∀ (p : Nat) (acc : Int32), p ≤ 6 → Q (.int (shOf r p acc)) h → Ev 165 14 [.ref 69, .int acc, .int (nI p + -nI 1)] [] h Q := by
  intro p
  induction p with
  | zero =>
    intro acc _ hq
    refine B_165_14 hs ?_
    simp (disch := omega) only [lit, tn_nI, z_inb, nI_add, pk_mul, z_le, z_nle, z_lt, z_nlt, z_ne, z_m1, pk_sub, xI_ss, xI_sd, xI_n, eq_self, true_and, and_true, and_self, not_true_eq_false, not_false_eq_true, false_implies, true_implies, implies_true, Classical.not_not, forall_const, true_or, or_true, false_or, or_false, false_and, and_false, if_true, if_false, ite_true, ite_false, reduceIte, reduceCtorEq, z_neg]
    exact hq
  | succ p ih =>
    intro acc hp hq
    have e : xI h 109 (8 + p) = r (8 + p) := by
      rw [hr (8 + p) (by omega)]
      unfold sw
      rw [if_neg (by omega), if_neg (by omega)]
    rw [z_m1 (by omega), Nat.add_sub_cancel]
    refine B_165_14 hs ?_
    simp (disch := omega) only [lit, tn_nI, z_inb, nI_add, pk_mul, z_le, z_nle, z_lt, z_nlt, z_ne, z_m1, pk_sub, xI_ss, xI_sd, xI_n, eq_self, true_and, and_true, and_self, not_true_eq_false, not_false_eq_true, false_implies, true_implies, implies_true, Classical.not_not, forall_const, true_or, or_true, false_or, or_false, false_and, and_false, if_true, if_false, ite_true, ite_false, reduceIte, reduceCtorEq, e]
    refine ih _ (by omega) ?_
    rw [Int32.mul_comm]
    exact hq
theorem c_shNow {T : Nat → Nat → Int32} {l : Nat} {r : Nat → Int32} {h : XH} {K : Int32 → XH → Prop} (M : RM T l h) (hr : rq (xI h 109) r) (k : K (shOf r (tn (T 0 1)) 0) h) : ClI 165 [.ref 69] h K := by
  refine B_165_0 M.1 ?_
  have e1 := M.np
  have e2 := M.2.1
  have l2 := M.l2
  simp (disch := omega) only [lit, tn_nI, z_inb, nI_add, pk_mul, z_le, z_nle, z_lt, z_nlt, z_ne, z_m1, pk_sub, xI_ss, xI_sd, xI_n, eq_self, true_and, and_true, and_self, not_true_eq_false, not_false_eq_true, false_implies, true_implies, implies_true, Classical.not_not, forall_const, true_or, or_true, false_or, or_false, false_and, and_false, if_true, if_false, ite_true, ite_false, reduceIte, reduceCtorEq, e2, e1]
  rw [Int32.sub_eq_add_neg]
  exact l_sn M.1 hr (tn (T 0 1)) _ M.p6 ⟨_, rfl, k⟩
theorem l_rsi {h : XH} {p a : Nat} {Q : Value → XH → Prop} (hs : Sh h) (ha : a < 2 ^ 31) (hp : p < 7) (hq : Q (.int (nI (a / 5 ^ p % 5))) h) : ∀ (m i : Nat), i + m = p → Ev 173 4 [.null, .int (nI p), .int (nI (a / 5 ^ i)), .int (nI i)] [] h Q := by
  intro m
  induction m with
  | zero =>
    intro i hm
    have h3 : a / 5 ^ i ≤ a := Nat.div_le_self _ _
    refine B_173_4 hs ?_
    simp (disch := omega) only [lit, tn_nI, z_inb, nI_add, pk_mul, z_le, z_nle, z_lt, z_nlt, z_ne, z_m1, pk_sub, xI_ss, xI_sd, xI_n, eq_self, true_and, and_true, and_self, not_true_eq_false, not_false_eq_true, false_implies, true_implies, implies_true, Classical.not_not, forall_const, true_or, or_true, false_or, or_false, false_and, and_false, if_true, if_false, ite_true, ite_false, reduceIte, reduceCtorEq, pk_rem]
    rw [show i = p by omega]
    exact hq
  | succ m ih =>
    intro i hm
    have h3 : a / 5 ^ i ≤ a := Nat.div_le_self _ _
    refine B_173_4 hs ?_
    simp (disch := omega) only [lit, tn_nI, z_inb, nI_add, pk_mul, z_le, z_nle, z_lt, z_nlt, z_ne, z_m1, pk_sub, xI_ss, xI_sd, xI_n, eq_self, true_and, and_true, and_self, not_true_eq_false, not_false_eq_true, false_implies, true_implies, implies_true, Classical.not_not, forall_const, true_or, or_true, false_or, or_false, false_and, and_false, if_true, if_false, ite_true, ite_false, reduceIte, reduceCtorEq, pk_div]
    rw [Nat.div_div_eq_div_mul, ← Nat.pow_succ]
    exact ih (i + 1) (by omega)
theorem c_rsi {h : XH} {p a : Nat} {K : Int32 → XH → Prop} (hs : Sh h) (ha : a < 2 ^ 31) (hp : p < 7) (k : K (nI (a / 5 ^ p % 5)) h) : ClI 173 [.int (nI a), .int (nI p)] h K := by
  refine B_173_0 hs ?_
  have := l_rsi hs ha hp (Q := fun r h1 => ∃ v, r = .int v ∧ K v h1) ⟨_, rfl, k⟩ p 0 (by omega)
  rw [Nat.pow_zero, Nat.div_one] at this
  exact this
section RW
variable {s r : Nat → Int32} {a b c d v : Int32}
theorem rwe_16 : up (rw_end r a b c d) 16 v = rw_end r a b c v := up_up
theorem rwe_17 : up (rw_end r a b c d) 17 v = rw_end r v b c d := by
  funext x
  unfold rw_end up
  by_cases h6 : x = 16
  · subst h6; rfl
  · by_cases h7 : x = 17
    · subst h7; rfl
    · rw [if_neg h7, if_neg h6, if_neg h6, if_neg h7, if_neg h7]
theorem rwe_18 : up (rw_end r a b c d) 18 v = rw_end r a v c d := by
  funext x
  unfold rw_end up
  by_cases h6 : x = 16
  · subst h6; rfl
  · by_cases h7 : x = 18
    · subst h7; rfl
    · rw [if_neg h7, if_neg h6, if_neg h6, if_neg h7, if_neg h7]
theorem rwe_19 : up (rw_end r a b c d) 19 v = rw_end r a b v d := by
  funext x
  unfold rw_end up
  by_cases h6 : x = 16
  · subst h6; rfl
  · by_cases h7 : x = 19
    · subst h7; rfl
    · rw [if_neg h7, if_neg h6, if_neg h6, if_neg h7, if_neg h7]
theorem rq_up (h : rq s r) {j : Nat} (h4 : j ≠ 14 ∧ j ≠ 15) : rq (up s j v) (up r j v) := by
  intro i hi
  by_cases e : i = j
  · subst e
    unfold sw
    rw [up_same, if_neg h4.1, if_neg h4.2, up_same]
  · rw [up_ne e, h i hi]
    unfold sw
    rw [up_ne (Ne.symm h4.2), up_ne (Ne.symm h4.1), up_ne e]
theorem rq_e {r' : Nat → Int32} (h : rq s r) (e : EqR r r') : rq s r' := by
  intro i hi
  rw [h i hi]
  unfold sw
  rw [e 15 (by decide), e 14 (by decide), e i hi]
theorem rq_s {j : Nat} {h : XH} (hr : rq (xI h 109) r) (h4 : j ≠ 14 ∧ j ≠ 15) : rq (xI (xsI h 109 j v) 109) (up r j v) := by rw [xI_s]; exact rq_up hr h4
theorem rwe_Eq : Eq16 (rw_end r a b c d) r := by
  intro i hi
  unfold rw_end
  rw [up_ne (by omega), up_ne (by omega), up_ne (by omega), up_ne (by omega)]
end RW
theorem sw_n {r : Nat → Int32} {i : Nat} (h : i ≠ 14 ∧ i ≠ 15) : sw r i = r i := by
  unfold sw
  rw [if_neg h.1, if_neg h.2]
section BL
variable {T : Nat → Nat → Int32} {l j k : Nat} {r b : Nat → Int32} {h0 : XH} {Q : Value → XH → Prop}
theorem l_bl1 (M : RM T l h0) (hb : ∀ i, i < k → ∃ a, a < 15625 ∧ b i = nI a) (h11 : ∀ i, i < k → xI h0 111 i = b i) (hk : k ≤ 300) {p : Nat} (hp : p < 6) :
    ∀ (n s : Nat) (acc : Int32) (h : XH), s + n = k → Gx [109] [] h0 h → rq (xI h 109) (rw_end r 1 (nI k) (nI (k - j)) acc) → (∀ h1, Gx [109] [] h0 h1 → rq (xI h1 109) (rw_end r 1 (nI k) (nI (k - j)) (blI b r p n s acc)) → Ev 172 26 [.ref 69, .int (nI j), .int (nI (p + 1)), .null] [] h1 Q) → Ev 172 41 [.ref 69, .int (nI j), .int (nI p), .int (nI s)] [] h Q := by
  intro n
  induction n with
  | zero =>
    intro s acc h hn g hr kk
    have e : xI h 109 18 = nI k := (hr 18 (by decide)).trans rfl
    refine B_172_41 (g.sh M.1 (by decide)) ?_
    simp (disch := omega) only [lit, tn_nI, z_inb, nI_add, pk_mul, z_le, z_nle, z_lt, z_nlt, z_ne, z_m1, pk_sub, xI_ss, xI_sd, xI_n, eq_self, true_and, and_true, and_self, not_true_eq_false, not_false_eq_true, false_implies, true_implies, implies_true, Classical.not_not, forall_const, true_or, or_true, false_or, or_false, false_and, and_false, if_true, if_false, ite_true, ite_false, reduceIte, reduceCtorEq, e]
    exact kk h g hr
  | succ n ih =>
    intro s acc h hn g hr kk
    have hs := g.sh M.1 (by decide)
    have e : xI h 109 18 = nI k := (hr 18 (by decide)).trans rfl
    obtain ⟨a, ha, eb⟩ := hb s (by omega)
    have e2 : xI h 111 s = nI a := by rw [g.at (by decide) (by decide), h11 s (by omega)]; exact eb
    have e3 : xI h 109 (8 + p) = r (8 + p) := by
      rw [hr _ (by omega), sw_n (by omega)]
      exact rwe_Eq _ (by omega)
    have e4 : xI h 109 16 = acc := (hr 16 (by decide)).trans rfl
    refine B_172_41 hs ?_
    simp (disch := omega) only [lit, tn_nI, z_inb, nI_add, pk_mul, z_le, z_nle, z_lt, z_nlt, z_ne, z_m1, pk_sub, xI_ss, xI_sd, xI_n, eq_self, true_and, and_true, and_self, not_true_eq_false, not_false_eq_true, false_implies, true_implies, implies_true, Classical.not_not, forall_const, true_or, or_true, false_or, or_false, false_and, and_false, if_true, if_false, ite_true, ite_false, reduceIte, reduceCtorEq, e, e2]
    refine c_rsi hs (by omega) (by omega) ⟨hs, ?_⟩
    rw [← shI_n (by omega) (by omega), ← eb]
    simp (disch := omega) only [lit, tn_nI, z_inb, nI_add, pk_mul, z_le, z_nle, z_lt, z_nlt, z_ne, z_m1, pk_sub, xI_ss, xI_sd, xI_n, eq_self, true_and, and_true, and_self, not_true_eq_false, not_false_eq_true, false_implies, true_implies, implies_true, Classical.not_not, forall_const, true_or, or_true, false_or, or_false, false_and, and_false, if_true, if_false, ite_true, ite_false, reduceIte, reduceCtorEq, e3, e4]
    unfold blI at kk
    refine ⟨fun z => ih (s + 1) acc h (by omega) g hr (by rw [if_pos z] at kk; exact kk), fun z => ?_⟩
    rw [if_neg z] at kk
    refine ih (s + 1) (acc ||| bt p) _ (by omega) (g.set (by decide) (by decide)) ?_ kk
    have := rq_s (v := acc ||| bt p) hr (j := 16) (by decide)
    rw [rwe_16] at this
    exact this
theorem l_bl2 (M : RM T l h0) (hb : ∀ i, i < k → ∃ a, a < 15625 ∧ b i = nI a) (h11 : ∀ i, i < k → xI h0 111 i = b i) (hk : k ≤ 300) (hj : j < k) :
    ∀ (n p : Nat) (acc : Int32) (h : XH), p + n = tn (T 0 1) → Gx [109] [] h0 h → rq (xI h 109) (rw_end r 1 (nI k) (nI (k - j)) acc) → (∀ h1, Gx [109] [] h0 h1 → rq (xI h1 109) (rw_end r 1 (nI k) (nI (k - j)) (blO b r (k - j) j n p acc)) → Q .null h1) → Ev 172 26 [.ref 69, .int (nI j), .int (nI p), .null] [] h Q := by
  have p6 := M.p6
  have l2 := M.l2
  intro n
  induction n with
  | zero =>
    intro p acc h hn g hr kk
    have M' := M.gx g (by decide) (by decide)
    have e1 := M'.np
    have e2 := M'.2.1
    refine B_172_26 M'.1 ?_
    simp (disch := omega) only [lit, tn_nI, z_inb, nI_add, pk_mul, z_le, z_nle, z_lt, z_nlt, z_ne, z_m1, pk_sub, xI_ss, xI_sd, xI_n, eq_self, true_and, and_true, and_self, not_true_eq_false, not_false_eq_true, false_implies, true_implies, implies_true, Classical.not_not, forall_const, true_or, or_true, false_or, or_false, false_and, and_false, if_true, if_false, ite_true, ite_false, reduceIte, reduceCtorEq, e2, e1]
    exact kk h g hr
  | succ n ih =>
    intro p acc h hn g hr kk
    have M' := M.gx g (by decide) (by decide)
    have e1 := M'.np
    have e2 := M'.2.1
    refine B_172_26 M'.1 ?_
    simp (disch := omega) only [lit, tn_nI, z_inb, nI_add, pk_mul, z_le, z_nle, z_lt, z_nlt, z_ne, z_m1, pk_sub, xI_ss, xI_sd, xI_n, eq_self, true_and, and_true, and_self, not_true_eq_false, not_false_eq_true, false_implies, true_implies, implies_true, Classical.not_not, forall_const, true_or, or_true, false_or, or_false, false_and, and_false, if_true, if_false, ite_true, ite_false, reduceIte, reduceCtorEq, e2, e1]
    exact l_bl1 M hb h11 hk (by omega) (k - j) j acc h (by omega) g hr (fun h1 g1 hr1 => ih (p + 1) _ h1 (by omega) g1 hr1 kk)
theorem c_blinks {K : XH → Prop} (M : RM T l h0) (hb : ∀ i, i < k → ∃ a, a < 15625 ∧ b i = nI a) (h11 : ∀ i, i < k → xI h0 111 i = b i) (hk : k ≤ 300) (hj : j < k) (hr : rq (xI h0 109) (rw_end r 0 (nI k) 0 0)) (kk : ∀ h1, Gx [109] [] h0 h1 → rq (xI h1 109) (rw_end r 1 (nI k) (nI (k - j)) (blO b r (k - j) j (tn (T 0 1)) 0 0)) → K h1) : ClV 172 [.ref 69, .int (nI j)] h0 K := by
  have e : xI h0 109 18 = nI k := (hr 18 (by decide)).trans rfl
  refine B_172_0 M.1 ?_
  simp (disch := omega) only [lit, tn_nI, z_inb, nI_add, pk_mul, z_le, z_nle, z_lt, z_nlt, z_ne, z_m1, pk_sub, xI_ss, xI_sd, xI_n, eq_self, true_and, and_true, and_self, not_true_eq_false, not_false_eq_true, false_implies, true_implies, implies_true, Classical.not_not, forall_const, true_or, or_true, false_or, or_false, false_and, and_false, if_true, if_false, ite_true, ite_false, reduceIte, reduceCtorEq, e]
  refine l_bl2 (r := r) M hb h11 hk hj (tn (T 0 1)) 0 0 _ (by omega) ((Gx.rf.set (by decide) (by decide)).set (by decide) (by decide)) ?_ (fun h1 g1 q => ⟨rfl, kk h1 g1 q⟩)
  have h1 := rq_s (v := nI 1) hr (j := 17) (by decide)
  rw [rwe_17] at h1
  have h2 := rq_s (v := nI (k - j)) h1 (j := 19) (by decide)
  rw [rwe_19] at h2
  exact h2
end BL
theorem stR_rwe {T : Nat → Nat → Int32} {r : Nat → Int32} {a b c d : Int32} (hc : cvT T) (hP : tn (T 0 1) ≤ 6) : stR T (rw_end r a b c d) = rw_end (stR T r) a b c d := by
  funext i
  unfold stR
  by_cases h : 8 ≤ i ∧ i < 8 + tn (T 0 1)
  · rw [if_pos h, shNx_eq hc rwe_Eq, rwe_Eq i (by omega), if_pos h]
  · rw [if_neg h]
    unfold rw_end up
    by_cases h6 : i = 16
    · rw [if_pos h6, if_pos h6]
    · rw [if_neg h6, if_neg h6]
      by_cases h9 : i = 19
      · rw [if_pos h9, if_pos h9]
      · rw [if_neg h9, if_neg h9]
        by_cases h8 : i = 18
        · rw [if_pos h8, if_pos h8]
        · rw [if_neg h8, if_neg h8]
          by_cases h7 : i = 17
          · rw [if_pos h7, if_pos h7]
          · rw [if_neg h7, if_neg h7]; exact (if_neg h).symm
theorem chg_eq {T : Nat → Nat → Int32} {r s : Nat → Int32} (hc : cvT T) (he : Eq16 r s) : ∀ n, n ≤ 6 → chg T r n = chg T s n := by
  intro n
  induction n with
  | zero => intro _; rfl
  | succ n ih => intro hn; unfold chg; rw [ih (by omega), shNx_eq hc he, he (8 + n) (by omega)]
theorem fnd_inj {b : Nat → Int32} {s : Int32} {j : Nat} : ∀ n, j < n → b j = s → (∀ i, i < n → b i = s → i = j) → fnd b s n = some j := by
  intro n
  induction n with
  | zero => intro h; omega
  | succ n ih =>
    intro hj hb hi
    unfold fnd
    by_cases e : b n = s
    · rw [if_pos e, hi n (by omega) e]
    · rw [if_neg e]
      refine ih ?_ hb (fun i h1 h2 => hi i (by omega) h2)
      have : j ≠ n := fun q => e (by rw [← q]; exact hb)
      omega

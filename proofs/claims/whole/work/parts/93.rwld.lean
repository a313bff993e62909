/-! THE REFERENCE: worlds, rows copied -/
section RA
variable {T : Nat → Nat → Int32} {l : Nat} {r : Nat → Int32} {h0 h : XH} {Q : Value → XH → Prop} {w f : Nat}
theorem RM.mo (M : RM T l h) (hf : f < tn (T 0 0)) : xI h 80 (8 * l + f) = nI (mo T f) ∧ 1 ≤ mo T f ∧ mo T f ≤ 3 := by
  obtain ⟨e, h1, h3⟩ := mo_n M.2.2.2.n hf
  exact ⟨by rw [← e]; exact (M.2.2.1.2.2.1 f hf).1, h1, h3⟩
theorem RM.wn (M : RM T l h) : xI h 83 l = nI (wN T) ∧ wN T ≤ 2000 := ⟨M.2.2.1.2.1.2.1.trans M.2.2.2.w.2.1, M.2.2.2.w.1⟩
theorem l_fIn (M : RM T l h) (hf : f < tn (T 0 0)) (hw : w < 2 ^ 31) (hq : Q (.int (nI (fIn (mo T) w f))) h) : ∀ (m g : Nat), g + m = f → Ev 236 5 [.ref 69, .null, .int (nI f), .int (nI (w / prd (mo T) g)), .int (nI g)] [] h Q := by
  have l2 := M.l2
  have f8 := M.f8
  have e18 := M.2.1
  intro m
  induction m with
  | zero =>
    intro g hm
    have hle : w / prd (mo T) g ≤ w := Nat.div_le_self _ _
    rw [show g = f by omega] at hle ⊢
    obtain ⟨e1, m1, m3⟩ := M.mo hf
    refine B_236_5 M.1 ?_
    try simp (disch := omega) only [lit, tn_nI, z_inb, nI_add, pk_mul, z_le, z_nle, z_lt, z_nlt, z_ne, z_m1, pk_sub, xI_ss, xI_sd, xI_n, eq_self, true_and, and_true, and_self, not_true_eq_false, not_false_eq_true, false_implies, true_implies, implies_true, Classical.not_not, forall_const, true_or, or_true, false_or, or_false, false_and, and_false, if_true, if_false, ite_true, ite_false, reduceIte, reduceCtorEq, e18, e1, pk_div, z_rem]
    exact hq
  | succ m ih =>
    intro g hm
    have hle : w / prd (mo T) g ≤ w := Nat.div_le_self _ _
    obtain ⟨e1, m1, m3⟩ := M.mo (f := g) (by omega)
    refine B_236_5 M.1 ?_
    try simp (disch := omega) only [lit, tn_nI, z_inb, nI_add, pk_mul, z_le, z_nle, z_lt, z_nlt, z_ne, z_m1, pk_sub, xI_ss, xI_sd, xI_n, eq_self, true_and, and_true, and_self, not_true_eq_false, not_false_eq_true, false_implies, true_implies, implies_true, Classical.not_not, forall_const, true_or, or_true, false_or, or_false, false_and, and_false, if_true, if_false, ite_true, ite_false, reduceIte, reduceCtorEq, e18, e1, pk_div]
    rw [Nat.div_div_eq_div_mul]
    exact ih (g + 1) (by omega)
theorem c_fIn {K : Int32 → XH → Prop} (M : RM T l h) (hf : f < tn (T 0 0)) (hw : w < 2 ^ 31) (k : K (nI (fIn (mo T) w f)) h) : ClI 236 [.ref 69, .int (nI w), .int (nI f)] h K := by
  have := l_fIn (Q := fun r h1 => ∃ v, r = .int v ∧ K v h1) M hf hw ⟨_, rfl, k⟩ f 0 (by omega)
  rw [show prd (mo T) 0 = 1 from rfl, Nat.div_one] at this
  exact B_236_0 M.1 this
theorem l_setW (M : RM T l h0) (hw : w < 2 ^ 31) (hr : rq (xI h0 109) r) (kk : ∀ h1, Gx [109] [] h0 h1 → rq (xI h1 109) (wRow T w r) → Q .null h1) :
    ∀ (m g : Nat) (h : XH), g + m = tn (T 0 0) → Gx [109] [] h0 h → (∀ i, i < 20 → xI h 109 i = if i < g then nI (fIn (mo T) w i) else sw r i) → Ev 163 4 [.ref 69, .null, .int (nI (w / prd (mo T) g)), .int (nI g), .null] [] h Q := by
  have l2 := M.l2
  have f8 := M.f8
  intro m
  induction m with
  | zero =>
    intro g h hm gx hq
    have M' := M.gx gx (by decide) (by decide)
    have e1 := M'.nf
    have e18 := M'.2.1
    refine B_163_4 M'.1 ?_
    try simp (disch := omega) only [lit, tn_nI, z_inb, nI_add, pk_mul, z_le, z_nle, z_lt, z_nlt, z_ne, z_m1, pk_sub, xI_ss, xI_sd, xI_n, eq_self, true_and, and_true, and_self, not_true_eq_false, not_false_eq_true, false_implies, true_implies, implies_true, Classical.not_not, forall_const, true_or, or_true, false_or, or_false, false_and, and_false, if_true, if_false, ite_true, ite_false, reduceIte, reduceCtorEq, e18, e1]
    refine kk h gx (fun i hi => ?_)
    rw [hq i hi, show g = tn (T 0 0) by omega]
    unfold sw wRow
    by_cases q : i < tn (T 0 0)
    · rw [if_pos q, if_neg (by omega), if_neg (by omega), if_pos q]
    · rw [if_neg q]
      by_cases q4 : i = 14
      · rw [if_pos q4, if_pos q4, if_neg (by omega)]
      · rw [if_neg q4, if_neg q4]
        by_cases q5 : i = 15
        · rw [if_pos q5, if_pos q5, if_neg (by omega)]
        · rw [if_neg q5, if_neg q5, if_neg q]
  | succ m ih =>
    intro g h hm gx hq
    have M' := M.gx gx (by decide) (by decide)
    have e1 := M'.nf
    have e18 := M'.2.1
    have hle : w / prd (mo T) g ≤ w := Nat.div_le_self _ _
    obtain ⟨e2, m1, m3⟩ := M'.mo (f := g) (by omega)
    refine B_163_4 M'.1 ?_
    try simp (disch := omega) only [lit, tn_nI, z_inb, nI_add, pk_mul, z_le, z_nle, z_lt, z_nlt, z_ne, z_m1, pk_sub, xI_ss, xI_sd, xI_n, eq_self, true_and, and_true, and_self, not_true_eq_false, not_false_eq_true, false_implies, true_implies, implies_true, Classical.not_not, forall_const, true_or, or_true, false_or, or_false, false_and, and_false, if_true, if_false, ite_true, ite_false, reduceIte, reduceCtorEq, e18, e1, e2, pk_div, z_rem]
    rw [show w / prd (mo T) g / (mo T g + 1) = w / prd (mo T) (g + 1) from Nat.div_div_eq_div_mul _ _ _]
    refine ih (g + 1) _ (by omega) (gx.set (by decide) (by decide)) (fun i hi => ?_)
    by_cases q : i = g
    · subst q
      rw [xI_ss, if_pos (by omega)]
      rfl
    · rw [xI_sd q, hq i hi]
      by_cases q2 : i < g
      · rw [if_pos q2, if_pos (by omega)]
      · rw [if_neg q2, if_neg (by omega)]
theorem c_setW {K : XH → Prop} (M : RM T l h) (hw : w < 2 ^ 31) (hr : rq (xI h 109) r) (k : ∀ h1, Gx [109] [] h h1 → rq (xI h1 109) (wRow T w r) → K h1) : ClV 163 [.ref 69, .int (nI w)] h K := by
  have := l_setW (Q := fun r h1 => r = .null ∧ K h1) M hw hr (fun h1 g e => ⟨rfl, k h1 g e⟩) (tn (T 0 0)) 0 h (by omega) Gx.rf (fun i hi => by rw [if_neg (by omega)]; exact hr i hi)
  rw [show prd (mo T) 0 = 1 from rfl, Nat.div_one] at this
  exact B_163_0 M.1 this
theorem l_wNow (M : RM T l h) (hr : rq (xI h 109) r) (hro : rOk T r) : ∀ (n a : Nat), n ≤ tn (T 0 0) → Q (.int (nI (a * prd (mo T) n + wOf (mo T) (fdg r) n))) h → Ev 223 14 [.ref 69, .int (nI a), .int (nI n + -nI 1)] [] h Q := by
  have l2 := M.l2
  have f8 := M.f8
  have e18 := M.2.1
  intro n
  induction n with
  | zero =>
    intro a _ hq
    refine B_223_14 M.1 ?_
    try simp (disch := omega) only [lit, tn_nI, z_inb, nI_add, pk_mul, z_le, z_nle, z_lt, z_nlt, z_ne, z_m1, pk_sub, xI_ss, xI_sd, xI_n, eq_self, true_and, and_true, and_self, not_true_eq_false, not_false_eq_true, false_implies, true_implies, implies_true, Classical.not_not, forall_const, true_or, or_true, false_or, or_false, false_and, and_false, if_true, if_false, ite_true, ite_false, reduceIte, reduceCtorEq, z_neg]
    rw [show prd (mo T) 0 = 1 from rfl, Nat.mul_one] at hq
    exact hq
  | succ n ih =>
    intro a hn hq
    obtain ⟨e2, m1, m3⟩ := M.mo (f := n) (by omega)
    have e3 : xI h 109 n = nI (fdg r n) := by rw [hr n (by omega), sw_n (by omega)]; exact (hro.f M.2.2.2.n (by omega)).1
    have hd := (hro.f M.2.2.2.n (f := n) (by omega)).2
    rw [z_m1 (by omega), Nat.add_sub_cancel]
    refine B_223_14 M.1 ?_
    try simp (disch := omega) only [lit, tn_nI, z_inb, nI_add, pk_mul, z_le, z_nle, z_lt, z_nlt, z_ne, z_m1, pk_sub, xI_ss, xI_sd, xI_n, eq_self, true_and, and_true, and_self, not_true_eq_false, not_false_eq_true, false_implies, true_implies, implies_true, Classical.not_not, forall_const, true_or, or_true, false_or, or_false, false_and, and_false, if_true, if_false, ite_true, ite_false, reduceIte, reduceCtorEq, e18, e2, e3]
    have ep : prd (mo T) (n + 1) = prd (mo T) n * (mo T n + 1) := rfl
    have ew : wOf (mo T) (fdg r) (n + 1) = wOf (mo T) (fdg r) n + fdg r n * prd (mo T) n := rfl
    have e5 : (a * (mo T n + 1) + fdg r n) * prd (mo T) n = a * prd (mo T) (n + 1) + fdg r n * prd (mo T) n := by
      rw [Nat.add_mul, ep, Nat.mul_assoc, Nat.mul_comm (mo T n + 1)]
    refine ih (a * (mo T n + 1) + fdg r n) (by omega) ?_
    rw [e5]
    rw [ew] at hq
    rw [show a * prd (mo T) (n + 1) + fdg r n * prd (mo T) n + wOf (mo T) (fdg r) n = a * prd (mo T) (n + 1) + (wOf (mo T) (fdg r) n + fdg r n * prd (mo T) n) by omega]
    exact hq
theorem c_wNow {K : Int32 → XH → Prop} (M : RM T l h) (hr : rq (xI h 109) r) (hro : rOk T r) (k : K (nI (wNow T r)) h) : ClI 223 [.ref 69] h K := by
  refine B_223_0 M.1 ?_
  have e1 := M.nf
  have e18 := M.2.1
  have l2 := M.l2
  try simp (disch := omega) only [lit, tn_nI, z_inb, nI_add, pk_mul, z_le, z_nle, z_lt, z_nlt, z_ne, z_m1, pk_sub, xI_ss, xI_sd, xI_n, eq_self, true_and, and_true, and_self, not_true_eq_false, not_false_eq_true, false_implies, true_implies, implies_true, Classical.not_not, forall_const, true_or, or_true, false_or, or_false, false_and, and_false, if_true, if_false, ite_true, ite_false, reduceIte, reduceCtorEq, e18, e1]
  rw [Int32.sub_eq_add_neg]
  refine l_wNow M hr hro (tn (T 0 0)) 0 (Nat.le_refl _) ⟨_, rfl, ?_⟩
  rw [Nat.zero_mul, Nat.zero_add]
  exact k
theorem l_copies (M : RM T l h0) (hr : rq (xI h0 108) r) (kk : ∀ h1, Gx [109] [61] h0 h1 → rq (xI h1 109) r → xI h1 69 61 = T 0 3 → Q .null h1) :
    ∀ (m i : Nat) (h : XH), i + m = 20 → Gx [109] [61] h0 h → (∀ j, j < i → xI h 109 j = sw r j) → Ev 210 2 [.ref 69, .int (nI i)] [] h Q := by
  have l2 := M.l2
  intro m
  induction m with
  | zero =>
    intro i h hm g hq
    have M' := M.gx g (by decide) (by decide)
    have e18 := M'.2.1
    have e93 : xI h 93 l = T 0 3 := M'.2.2.1.2.1.2.2.2.2
    refine B_210_2 M'.1 ?_
    try simp (disch := omega) only [lit, tn_nI, z_inb, nI_add, pk_mul, z_le, z_nle, z_lt, z_nlt, z_ne, z_m1, pk_sub, xI_ss, xI_sd, xI_n, eq_self, true_and, and_true, and_self, not_true_eq_false, not_false_eq_true, false_implies, true_implies, implies_true, Classical.not_not, forall_const, true_or, or_true, false_or, or_false, false_and, and_false, if_true, if_false, ite_true, ite_false, reduceIte, reduceCtorEq, e18, e93]
    exact kk _ (g.fld (by decide)) (fun j hj => by rw [xI_n (by decide)]; exact hq j (by omega)) xI_ss
  | succ m ih =>
    intro i h hm g hq
    have M' := M.gx g (by decide) (by decide)
    have e8 : xI h 108 i = sw r i := by rw [g.at (by decide) (by decide)]; exact hr i (by omega)
    refine B_210_2 M'.1 ?_
    try simp (disch := omega) only [lit, tn_nI, z_inb, nI_add, pk_mul, z_le, z_nle, z_lt, z_nlt, z_ne, z_m1, pk_sub, xI_ss, xI_sd, xI_n, eq_self, true_and, and_true, and_self, not_true_eq_false, not_false_eq_true, false_implies, true_implies, implies_true, Classical.not_not, forall_const, true_or, or_true, false_or, or_false, false_and, and_false, if_true, if_false, ite_true, ite_false, reduceIte, reduceCtorEq, e8]
    refine ih (i + 1) _ (by omega) (g.set (by decide) (by decide)) (fun j hj => ?_)
    by_cases e : j = i
    · subst e; exact xI_ss
    · rw [xI_sd e]; exact hq j (by omega)
theorem c_copies {K : XH → Prop} (M : RM T l h) (hr : rq (xI h 108) r) (k : ∀ h1, Gx [109] [61] h h1 → rq (xI h1 109) r → xI h1 69 61 = T 0 3 → K h1) : ClV 210 [.ref 69] h K :=
  B_210_0 M.1 (l_copies M hr (fun h1 g e e2 => ⟨rfl, k h1 g e e2⟩) 20 0 h (by decide) Gx.rf (fun j hj => absurd hj (by omega)))
theorem l_keepR (hs0 : Sh h0) (hr : rq (xI h0 109) r) (kk : ∀ h1, Gx [108] [] h0 h1 → rq (xI h1 108) r → Q .null h1) :
    ∀ (m i : Nat) (h : XH), i + m = 20 → Gx [108] [] h0 h → (∀ j, j < i → xI h 108 j = sw r j) → Ev 174 2 [.ref 69, .int (nI i)] [] h Q := by
  intro m
  induction m with
  | zero =>
    intro i h hm g hq
    refine B_174_2 (g.sh hs0 (by decide)) ?_
    try simp (disch := omega) only [lit, tn_nI, z_inb, nI_add, pk_mul, z_le, z_nle, z_lt, z_nlt, z_ne, z_m1, pk_sub, xI_ss, xI_sd, xI_n, eq_self, true_and, and_true, and_self, not_true_eq_false, not_false_eq_true, false_implies, true_implies, implies_true, Classical.not_not, forall_const, true_or, or_true, false_or, or_false, false_and, and_false, if_true, if_false, ite_true, ite_false, reduceIte, reduceCtorEq]
    exact kk _ g (fun j hj => hq j (by omega))
  | succ m ih =>
    intro i h hm g hq
    have e8 : xI h 109 i = sw r i := by rw [g.at (by decide) (by decide)]; exact hr i (by omega)
    refine B_174_2 (g.sh hs0 (by decide)) ?_
    try simp (disch := omega) only [lit, tn_nI, z_inb, nI_add, pk_mul, z_le, z_nle, z_lt, z_nlt, z_ne, z_m1, pk_sub, xI_ss, xI_sd, xI_n, eq_self, true_and, and_true, and_self, not_true_eq_false, not_false_eq_true, false_implies, true_implies, implies_true, Classical.not_not, forall_const, true_or, or_true, false_or, or_false, false_and, and_false, if_true, if_false, ite_true, ite_false, reduceIte, reduceCtorEq, e8]
    refine ih (i + 1) _ (by omega) (g.set (by decide) (by decide)) (fun j hj => ?_)
    by_cases e : j = i
    · subst e; exact xI_ss
    · rw [xI_sd e]; exact hq j (by omega)
theorem c_keepR {K : XH → Prop} (hs : Sh h) (hr : rq (xI h 109) r) (k : ∀ h1, Gx [108] [] h h1 → rq (xI h1 108) r → K h1) : ClV 174 [.ref 69] h K :=
  B_174_0 hs (l_keepR hs hr (fun h1 g e => ⟨rfl, k h1 g e⟩) 20 0 h (by decide) Gx.rf (fun j hj => absurd hj (by omega)))
/-- n days on -/
def dN (T : Nat → Nat → Int32) (seed : Int32) : Nat → (Nat → Int32) → (Nat → Int32)
  | 0, r => r
  | n + 1, r => dN T seed n (dayS T seed r)
theorem dN_s {seed : Int32} : ∀ n r, dN T seed (n + 1) r = dayS T seed (dN T seed n r) := by
  intro n
  induction n with
  | zero => intro r; rfl
  | succ n ih => intro r; exact ih (dayS T seed r)
theorem rOk_dN (t : tA T) {seed : Int32} : ∀ n r, rOk T r → rOk T (dN T seed n r) := by
  intro n
  induction n with
  | zero => intro r h; exact h
  | succ n ih => intro r h; exact ih _ (rOk_day t h)
theorem l_goes {seed : Int32} {n : Nat} (hn : n < 2 ^ 31) (M : RM T l h0) (e61 : xI h0 69 61 = seed) :
    ∀ (m i : Nat) (r : Nat → Int32) (h : XH), i + m = n → Gx [106, 107, 109, 110, 111, 112] [58] h0 h → rq (xI h 109) r → rOk T r → (∀ h1, Gx [106, 107, 109, 110, 111, 112] [58] h0 h1 → rq (xI h1 109) (dN T seed m r) → Q .null h1) → Ev 213 2 [.ref 69, .int (nI n), .int (nI i)] [] h Q := by
  intro m
  induction m with
  | zero =>
    intro i r h hm g hr hro kk
    refine B_213_2 (g.sh M.1 (by decide)) ?_
    try simp (disch := omega) only [lit, tn_nI, z_inb, nI_add, pk_mul, z_le, z_nle, z_lt, z_nlt, z_ne, z_m1, pk_sub, xI_ss, xI_sd, xI_n, eq_self, true_and, and_true, and_self, not_true_eq_false, not_false_eq_true, false_implies, true_implies, implies_true, Classical.not_not, forall_const, true_or, or_true, false_or, or_false, false_and, and_false, if_true, if_false, ite_true, ite_false, reduceIte, reduceCtorEq]
    exact kk h g hr
  | succ m ih =>
    intro i r h hm g hr hro kk
    have M' := M.gx g (by decide) (by decide)
    refine B_213_2 M'.1 ?_
    try simp (disch := omega) only [lit, tn_nI, z_inb, nI_add, pk_mul, z_le, z_nle, z_lt, z_nlt, z_ne, z_m1, pk_sub, xI_ss, xI_sd, xI_n, eq_self, true_and, and_true, and_self, not_true_eq_false, not_false_eq_true, false_implies, true_implies, implies_true, Classical.not_not, forall_const, true_or, or_true, false_or, or_false, false_and, and_false, if_true, if_false, ite_true, ite_false, reduceIte, reduceCtorEq]
    refine c_dayGoes (seed := seed) M' hr hro ((g.f (by decide)).trans e61) (fun h1 g1 hr1 => ⟨g1.sh M'.1 (by decide), ?_⟩)
    exact ih (i + 1) _ h1 (by omega) (g.tr g1) hr1 (rOk_day M.2.2.2 hro) kk
theorem c_goes {seed : Int32} {n : Nat} {K : XH → Prop} (hn : n < 2 ^ 31) (M : RM T l h) (e61 : xI h 69 61 = seed) (hr : rq (xI h 109) r) (hro : rOk T r) (k : ∀ h1, Gx [106, 107, 109, 110, 111, 112] [58] h h1 → rq (xI h1 109) (dN T seed n r) → K h1) : ClV 213 [.ref 69, .int (nI n)] h K :=
  B_213_0 M.1 (l_goes hn M e61 n 0 r h (by omega) Gx.rf hr hro (fun h1 g e => ⟨rfl, k h1 g e⟩))
theorem c_tries {K : XH → Prop} (M : RM T l h) (hw : w < 2 ^ 31) (hr : rq (xI h 108) r) (hro : rOk T r) (k : ∀ h1, Gx [106, 107, 109, 110, 111] [58, 61] h h1 → rq (xI h1 109) (setS T (wRow T w r)) → K h1) : ClV 237 [.ref 69, .int (nI w)] h K := by
  refine B_237_0 M.1 (c_copies M hr (fun h1 g1 hr1 _ => ⟨g1.sh M.1 (by decide), ?_⟩))
  have M1 := M.gx g1 (by decide) (by decide)
  refine c_setW M1 hw hr1 (fun h2 g2 hr2 => ⟨g2.sh M1.1 (by decide), ?_⟩)
  have M2 := M1.gx g2 (by decide) (by decide)
  refine c_settles M2 hr2 (rOk_w M.2.2.2 hro).1 (fun h3 g3 hr3 => ⟨g3.sh M2.1 (by decide), rfl, k h3 ?_ hr3⟩)
  exact (g1.trm (S := [109]) (F := [61]) g2 (by decide) (by decide) (by decide) (by decide)).trm g3 (by decide) (by decide) (by decide) (by decide)
/-- all shades, as a number, in world w -/
def wsh (T : Nat → Nat → Int32) (r : Nat → Int32) (w : Nat) : Nat := num (rdg (setS T (wRow T w r))) 6
theorem num_r6 {s : Nat → Int32} (h : rSh T s) : num (rdg s) 6 < 15625 := num_lt 6 (fun p hp => (rdg_n h hp).1)
theorem wsh_lt (t : tA T) (hro : rOk T r) : wsh T r w < 15625 := num_r6 (rOk_set t (rOk_w t hro)).1
theorem c_shNow6 {K : Int32 → XH → Prop} (M : RM T l h) (hr : rq (xI h 109) r) (hsh : rSh T r) (k : K (nI (num (rdg r) 6)) h) : ClI 165 [.ref 69] h K := by
  refine c_shNow M hr ?_
  rw [shOf_P hsh M.p6, shOf_r hsh (Nat.le_refl _)]
  exact k
theorem l_fillW (M : RM T l h0) (hr : rq (xI h0 108) r) (hro : rOk T r) (kk : ∀ h1, Gx [106, 107, 109, 110, 111, 115] [58, 61] h0 h1 → (∀ w, w < wN T → xI h1 115 w = nI (wsh T r w)) → Q .null h1) :
    ∀ (m w : Nat) (h : XH), w + m = wN T → Gx [106, 107, 109, 110, 111, 115] [58, 61] h0 h → (∀ v, v < w → xI h 115 v = nI (wsh T r v)) → Ev 239 2 [.ref 69, .int (nI w)] [] h Q := by
  have l2 := M.l2
  have W2 := M.wn.2
  intro m
  induction m with
  | zero =>
    intro w h hm g hq
    have M' := M.gx g (by decide) (by decide)
    have e18 := M'.2.1
    have e83 := M'.wn.1
    refine B_239_2 M'.1 ?_
    try simp (disch := omega) only [lit, tn_nI, z_inb, nI_add, pk_mul, z_le, z_nle, z_lt, z_nlt, z_ne, z_m1, pk_sub, xI_ss, xI_sd, xI_n, eq_self, true_and, and_true, and_self, not_true_eq_false, not_false_eq_true, false_implies, true_implies, implies_true, Classical.not_not, forall_const, true_or, or_true, false_or, or_false, false_and, and_false, if_true, if_false, ite_true, ite_false, reduceIte, reduceCtorEq, e18, e83]
    exact kk h g (fun v hv => hq v (by omega))
  | succ m ih =>
    intro w h hm g hq
    have M' := M.gx g (by decide) (by decide)
    have e18 := M'.2.1
    have e83 := M'.wn.1
    have hr' : rq (xI h 108) r := by rw [g.at (by decide) (by decide)]; exact hr
    refine B_239_2 M'.1 ?_
    try simp (disch := omega) only [lit, tn_nI, z_inb, nI_add, pk_mul, z_le, z_nle, z_lt, z_nlt, z_ne, z_m1, pk_sub, xI_ss, xI_sd, xI_n, eq_self, true_and, and_true, and_self, not_true_eq_false, not_false_eq_true, false_implies, true_implies, implies_true, Classical.not_not, forall_const, true_or, or_true, false_or, or_false, false_and, and_false, if_true, if_false, ite_true, ite_false, reduceIte, reduceCtorEq, e18, e83]
    refine c_tries M' (by omega) hr' hro (fun h1 g1 hr1 => ⟨g1.sh M'.1 (by decide), ?_⟩)
    have M1 := M'.gx g1 (by decide) (by decide)
    refine c_shNow6 M1 hr1 (rOk_set M.2.2.2 (rOk_w M.2.2.2 hro)).1 ⟨M1.1, ?_⟩
    try simp (disch := omega) only [lit, tn_nI, z_inb, nI_add, pk_mul, z_le, z_nle, z_lt, z_nlt, z_ne, z_m1, pk_sub, xI_ss, xI_sd, xI_n, eq_self, true_and, and_true, and_self, not_true_eq_false, not_false_eq_true, false_implies, true_implies, implies_true, Classical.not_not, forall_const, true_or, or_true, false_or, or_false, false_and, and_false, if_true, if_false, ite_true, ite_false, reduceIte, reduceCtorEq]
    refine ih (w + 1) _ (by omega) ((g.trm g1 (by decide) (by decide) (by decide) (by decide)).set (by decide) (by decide)) (fun v hv => ?_)
    by_cases e : v = w
    · subst e; rw [xI_ss]; rfl
    · rw [xI_sd e, g1.at (by decide) (by decide)]; exact hq v (by omega)
theorem c_fillW {K : XH → Prop} (M : RM T l h) (hr : rq (xI h 108) r) (hro : rOk T r) (k : ∀ h1, Gx [106, 107, 109, 110, 111, 115] [58, 61] h h1 → (∀ w, w < wN T → xI h1 115 w = nI (wsh T r w)) → K h1) : ClV 239 [.ref 69] h K :=
  B_239_0 M.1 (l_fillW M hr hro (fun h1 g e => ⟨rfl, k h1 g e⟩) (wN T) 0 h (by omega) Gx.rf (fun v hv => absurd hv (by omega)))
theorem c_in {x a b : Int32} {K : Int32 → XH → Prop} (hs : Sh h) (k1 : ¬ x < a → ¬ b < x → K (nI 1) h) (k0 : (x < a ∨ b < x) → K (nI 0) h) : ClI 207 [.int x, .int a, .int b] h K :=
  B_207_0 hs ⟨fun z => ⟨_, rfl, k0 (Or.inl z)⟩, fun z => ⟨fun y => ⟨_, rfl, k0 (Or.inr y)⟩, fun y => ⟨_, rfl, k1 z y⟩⟩⟩
/-- of a number: one of the first n, or not -/
theorem in_n {x : Int32} {n : Nat} (hn : n < 2 ^ 31) {A : Prop} (h1 : ∀ j, j < n → x = nI j → A) (h0 : (x < 0 ∨ nI n ≤ x) → A) : A := by
  rcases pk_ix x hn with q | q | ⟨j, hj, q⟩
  · exact h0 (Or.inl q)
  · exact h0 (Or.inr q)
  · exact h1 j hj q
theorem c_inN {x : Int32} {n : Nat} {K : Int32 → XH → Prop} (hs : Sh h) (hn : n < 2 ^ 31) (k1 : ∀ j, j < n → x = nI j → K (nI 1) h) (k0 : (x < 0 ∨ nI n ≤ x) → K (nI 0) h) : ClI 207 [.int x, .int (nI 0), .int (nI n - nI 1)] h K := by
  have hz : (0 : Int32) = nI 0 := rfl
  refine in_n (x := x) hn (fun j hj e => ?_) (fun q => ?_)
  · subst e
    rw [pk_sub (by omega)]
    exact c_in hs (fun _ _ => k1 j hj rfl) (fun q => by
      rcases q with q | q
      · exact absurd q (nI_pos (by omega))
      · exact absurd q (nI_nlt (by omega) (by omega)))
  · refine c_in hs (fun z y => ?_) (fun _ => k0 q)
    rcases q with q | q
    · exact absurd q z
    · obtain ⟨j, hj, e⟩ := nI_of z
      subst e
      have hj2 : n ≤ j := (nI_leI hn hj).mp q
      refine absurd ?_ y
      by_cases h0 : n = 0
      · subst h0
        rw [show nI 0 - nI 1 = (-1 : Int32) from rfl]
        exact Int32.lt_of_lt_of_le (by decide) (nI_pos' hj)
      · rw [pk_sub (by omega)]
        exact nI_lt (by omega) hj
theorem c_rPage {x : Int32} {K : Int32 → XH → Prop} (M : RM T l h) (k1 : ∀ j, j < tn (T 0 1) → x = nI j → K (nI 1) h) (k0 : (x < 0 ∨ nI (tn (T 0 1)) ≤ x) → K (nI 0) h) : ClI 209 [.ref 69, .int x] h K := by
  refine B_209_0 M.1 ?_
  have e1 := M.np
  have e18 := M.2.1
  have l2 := M.l2
  have p6 := M.p6
  try simp (disch := omega) only [lit, tn_nI, z_inb, nI_add, pk_mul, z_le, z_nle, z_lt, z_nlt, z_ne, z_m1, pk_sub, xI_ss, xI_sd, xI_n, eq_self, true_and, and_true, and_self, not_true_eq_false, not_false_eq_true, false_implies, true_implies, implies_true, Classical.not_not, forall_const, true_or, or_true, false_or, or_false, false_and, and_false, if_true, if_false, ite_true, ite_false, reduceIte, reduceCtorEq, e18, e1]
  exact c_inN M.1 (by omega) (fun j hj e => ⟨M.1, Or.inr rfl, _, rfl, k1 j hj e⟩) (fun q => ⟨M.1, Or.inl rfl, _, rfl, k0 q⟩)
theorem c_rFact {x : Int32} {K : Int32 → XH → Prop} (M : RM T l h) (k1 : ∀ j, j < tn (T 0 0) → x = nI j → K (nI 1) h) (k0 : (x < 0 ∨ nI (tn (T 0 0)) ≤ x) → K (nI 0) h) : ClI 206 [.ref 69, .int x] h K := by
  refine B_206_0 M.1 ?_
  have e1 := M.nf
  have e18 := M.2.1
  have l2 := M.l2
  have f8 := M.f8
  try simp (disch := omega) only [lit, tn_nI, z_inb, nI_add, pk_mul, z_le, z_nle, z_lt, z_nlt, z_ne, z_m1, pk_sub, xI_ss, xI_sd, xI_n, eq_self, true_and, and_true, and_self, not_true_eq_false, not_false_eq_true, false_implies, true_implies, implies_true, Classical.not_not, forall_const, true_or, or_true, false_or, or_false, false_and, and_false, if_true, if_false, ite_true, ite_false, reduceIte, reduceCtorEq, e18, e1]
  exact c_inN M.1 (by omega) (fun j hj e => ⟨M.1, Or.inr rfl, _, rfl, k1 j hj e⟩) (fun q => ⟨M.1, Or.inl rfl, _, rfl, k0 q⟩)
end RA

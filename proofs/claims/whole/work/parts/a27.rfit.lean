/-! WHAT WAS SEEN: the reference -/
def SNr (T : Nat → Nat → Int32) (h : XH) (n : Nat) (q : Nat → Nat × Nat × Nat) : Prop := n ≤ 20 ∧ xI h 69 71 = nI n ∧ ∀ i, i < n → xI h 118 i = nI (q i).1 ∧ xI h 119 i = nI (q i).2.1 ∧ xI h 120 i = nI (q i).2.2 ∧ (q i).1 < tn (T 0 1) ∧ (q i).2.1 ≤ 30 ∧ (q i).2.2 ≤ 4
/-- facts as told -/
def tR (T : Nat → Nat → Int32) : Nat → Int32 := fun i => if i < tn (T 0 0) then T 2 i else nI 0
section RFt
variable {T : Nat → Nat → Int32} {l n : Nat} {q : Nat → Nat × Nat × Nat} {h0 h : XH} {Q : Value → XH → Prop}
theorem SNr.gx {S F : List Nat} (s : SNr T h0 n q) (g : Gx S F h0 h) (hF : 71 ∉ F) (hS : 118 ∉ S ∧ 119 ∉ S ∧ 120 ∉ S) : SNr T h n q := by
  unfold SNr
  rw [g.f hF, g.at hS.1 (by decide), g.at hS.2.1 (by decide), g.at hS.2.2 (by decide)]
  exact s
theorem rOk_t (t : tA T) : rOk T (tR T) := by
  have f8 := t.f8
  refine ⟨⟨fun p hp => ?_, fun p hp _ => ?_⟩, fun f hf => ?_, fun f hf h8 => ?_⟩
  · unfold tR; rw [if_neg (by omega)]; exact ⟨0, by decide, rfl⟩
  · unfold tR; rw [if_neg (by omega)]
  · unfold tR; rw [if_pos hf]; exact t.x.1 f hf
  · unfold tR; rw [if_neg (by omega)]
theorem l_bt {x : Int32} (M : RM T l h0) (kk : ∀ h1, Gx [109] [] h0 h1 → rq (xI h1 109) (tR T) → Ev 162 23 [.ref 69, .int x, .int (nI (tn (T 0 0)))] [] h1 Q) : ∀ (m f : Nat) (h : XH), f + m = tn (T 0 0) → Gx [109] [] h0 h → (∀ i, i < 20 → xI h 109 i = if i < f then T 2 i else nI 0) → Ev 162 23 [.ref 69, .int x, .int (nI f)] [] h Q := by
  have l2 := M.l2
  have f8 := M.f8
  intro m
  induction m with
  | zero =>
    intro f h hm g hq
    rw [show f = tn (T 0 0) by omega] at hq ⊢
    refine kk h g (fun i hi => ?_)
    rw [hq i hi]
    unfold sw tR
    by_cases z : i < tn (T 0 0)
    · rw [if_pos z, if_neg (by omega), if_neg (by omega)]
    · rw [if_neg z]
      by_cases q4 : i = 14
      · rw [if_pos q4, if_neg (by omega)]
      · rw [if_neg q4]
        by_cases q5 : i = 15
        · rw [if_pos q5, if_neg (by omega)]
        · rw [if_neg q5]
  | succ m ih =>
    intro f h hm g hq
    have M' := M.gx g (by decide) (by decide)
    have e1 := M'.nf
    have e18 := M'.2.1
    have e81 : xI h 81 (8 * l + f) = T 2 f := (M'.2.2.1.2.2.1 f (by omega)).2.1
    refine B_162_23 M'.1 ?_
    try simp (disch := omega) only [lit, tn_nI, z_inb, nI_add, pk_mul, z_le, z_nle, z_lt, z_nlt, z_ne, z_m1, pk_sub, xI_ss, xI_sd, xI_n, eq_self, true_and, and_true, and_self, not_true_eq_false, not_false_eq_true, false_implies, true_implies, implies_true, Classical.not_not, forall_const, true_or, or_true, false_or, or_false, false_and, and_false, if_true, if_false, ite_true, ite_false, reduceIte, reduceCtorEq, e18, e1, e81]
    refine ih (f + 1) _ (by omega) (g.set (by decide) (by decide)) (fun i hi => ?_)
    by_cases e : i = f
    · subst e; rw [xI_ss, if_pos (by omega)]
    · rw [xI_sd e, hq i hi]
      by_cases z : i < f
      · rw [if_pos z, if_pos (by omega)]
      · rw [if_neg z, if_neg (by omega)]
theorem l_bz {x : Int32} (M : RM T l h0) (kk : ∀ h1, Gx [109] [] h0 h1 → (∀ i, i < 20 → xI h1 109 i = nI 0) → Ev 162 23 [.ref 69, .int x, .int (nI 0)] [] h1 Q) : ∀ (m i : Nat) (h : XH), i + m = 20 → Gx [109] [] h0 h → (∀ j, j < i → xI h 109 j = nI 0) → Ev 162 2 [.ref 69, .int x, .int (nI i)] [] h Q := by
  intro m
  induction m with
  | zero =>
    intro i h hm g hq
    refine B_162_2 (g.sh M.1 (by decide)) ?_
    try simp (disch := omega) only [lit, tn_nI, z_inb, nI_add, pk_mul, z_le, z_nle, z_lt, z_nlt, z_ne, z_m1, pk_sub, xI_ss, xI_sd, xI_n, eq_self, true_and, and_true, and_self, not_true_eq_false, not_false_eq_true, false_implies, true_implies, implies_true, Classical.not_not, forall_const, true_or, or_true, false_or, or_false, false_and, and_false, if_true, if_false, ite_true, ite_false, reduceIte, reduceCtorEq]
    exact kk h g (fun j hj => hq j (by omega))
  | succ m ih =>
    intro i h hm g hq
    refine B_162_2 (g.sh M.1 (by decide)) ?_
    try simp (disch := omega) only [lit, tn_nI, z_inb, nI_add, pk_mul, z_le, z_nle, z_lt, z_nlt, z_ne, z_m1, pk_sub, xI_ss, xI_sd, xI_n, eq_self, true_and, and_true, and_self, not_true_eq_false, not_false_eq_true, false_implies, true_implies, implies_true, Classical.not_not, forall_const, true_or, or_true, false_or, or_false, false_and, and_false, if_true, if_false, ite_true, ite_false, reduceIte, reduceCtorEq]
    refine ih (i + 1) _ (by omega) (g.set (by decide) (by decide)) (fun j hj => ?_)
    by_cases e : j = i
    · subst e; exact xI_ss
    · rw [xI_sd e]; exact hq j (by omega)
theorem c_told {x : Int32} {K : XH → Prop} (M : RM T l h) (kk : ∀ h1, Gx [109] [] h h1 → rq (xI h1 109) (tR T) → Ev 162 23 [.ref 69, .int x, .int (nI (tn (T 0 0)))] [] h1 (fun r h1 => r = .null ∧ K h1)) : ClV 162 [.ref 69, .int x] h K := by
  refine B_162_0 M.1 (l_bz M (fun h1 g1 e1 => ?_) 20 0 h (by decide) Gx.rf (fun j hj => absurd hj (by omega)))
  have M1 := M.gx g1 (by decide) (by decide)
  exact l_bt M1 (fun h2 g2 e2 => kk h2 (g1.tr g2) e2) (tn (T 0 0)) 0 h1 (by omega) Gx.rf (fun i hi => by rw [if_neg (by omega)]; exact e1 i hi)
theorem c_begW {w : Nat} {K : XH → Prop} (M : RM T l h) (hw : w < wN T) (k : ∀ h1, Gx SX [58, 61] h h1 → rq (xI h1 109) (bR T w) → xI h1 69 61 = T 0 3 → K h1) : ClV 162 [.ref 69, .int (nI w)] h K := by
  have W2 := M.wn.2
  have l2 := M.l2
  have f8 := M.f8
  refine c_told M (fun h1 g1 e1 => ?_)
  have M1 := M.gx g1 (by decide) (by decide)
  have en := M1.nf
  have e18 := M1.2.1
  refine B_162_23 M1.1 ?_
  try simp (disch := omega) only [lit, tn_nI, z_inb, nI_add, pk_mul, z_le, z_nle, z_lt, z_nlt, z_ne, z_m1, pk_sub, xI_ss, xI_sd, xI_n, eq_self, true_and, and_true, and_self, not_true_eq_false, not_false_eq_true, false_implies, true_implies, implies_true, Classical.not_not, forall_const, true_or, or_true, false_or, or_false, false_and, and_false, if_true, if_false, ite_true, ite_false, reduceIte, reduceCtorEq, e18, en]
  refine c_setW M1 (by omega) e1 (fun h2 g2 e2 => ?_)
  have M2 := M1.gx g2 (by decide) (by decide)
  have e18' := M2.2.1
  have e93 : xI h2 93 l = T 0 3 := M2.2.2.1.2.1.2.2.2.2
  refine ⟨M2.1, ?_⟩
  try simp (disch := omega) only [lit, tn_nI, z_inb, nI_add, pk_mul, z_le, z_nle, z_lt, z_nlt, z_ne, z_m1, pk_sub, xI_ss, xI_sd, xI_n, eq_self, true_and, and_true, and_self, not_true_eq_false, not_false_eq_true, false_implies, true_implies, implies_true, Classical.not_not, forall_const, true_or, or_true, false_or, or_false, false_and, and_false, if_true, if_false, ite_true, ite_false, reduceIte, reduceCtorEq, e18', e93]
  have g3 : Gx [109] [61] h (xsI h2 69 61 (T 0 3)) := (g1.trm (S := [109]) (F := [61]) g2 (by decide) (by decide) (by decide) (by decide)).fld (by decide)
  have M3 := M.gx g3 (by decide) (by decide)
  have ez : wRow T w (tR T) = wRow T w (fun _ => 0) := by
    funext i
    unfold wRow tR
    by_cases z : i < tn (T 0 0)
    · rw [if_pos z, if_pos z]
    · rw [if_neg z, if_neg z, if_neg z]; rfl
  rw [ez] at e2
  refine c_settles M3 (by rw [xI_n (by decide)]; exact e2) (rOk_z M.2.2.2).1 (fun h4 g4 e4 => ⟨g4.sh M3.1 (by decide), k h4 (g3.trm g4 (by decide) (by decide) (by decide) (by decide)) e4 ((g4.f (by decide)).trans xI_ss)⟩)
theorem c_beg0 {K : XH → Prop} (M : RM T l h) (k : ∀ h1, Gx SX [58, 61] h h1 → rq (xI h1 109) (setS T (tR T)) → K h1) : ClV 162 [.ref 69, .int (-1)] h K := by
  have l2 := M.l2
  have f8 := M.f8
  refine c_told M (fun h1 g1 e1 => ?_)
  have M1 := M.gx g1 (by decide) (by decide)
  have en := M1.nf
  have e18 := M1.2.1
  have e93 : xI h1 93 l = T 0 3 := M1.2.2.1.2.1.2.2.2.2
  refine B_162_23 M1.1 ?_
  rw [e18, tn_nI (by omega), en]
  refine ⟨inb (by omega) (by decide), fun _ => ⟨fun _ => ⟨inb (by omega) (by decide), ?_⟩, fun z => absurd (by decide) z⟩, fun z => absurd (nI_le (Nat.le_refl _) (by omega)) z⟩
  rw [e93]
  have g3 : Gx [109] [61] h (xsI h1 69 61 (T 0 3)) := (g1.mono (by decide) (by decide)).fld (by decide)
  have M3 := M.gx g3 (by decide) (by decide)
  exact c_settles M3 (by rw [xI_n (by decide)]; exact e1) (rOk_t M.2.2.2).1 (fun h4 g4 e4 => ⟨g4.sh M3.1 (by decide), rfl, k h4 (g3.trm g4 (by decide) (by decide) (by decide) (by decide)) e4⟩)
theorem c_rknown {x : Int32} {K : Int32 → XH → Prop} (hs : Sh h) (S : SNr T h n q) (k1 : ∀ k, k < n + 1 → x = nI k → K (nI 1) h) (k0 : (x < 0 ∨ nI (n + 1) ≤ x) → K (nI 0) h) : ClI 260 [.ref 69, .int x] h K := by
  obtain ⟨n20, e71, -⟩ := S
  refine B_260_0 hs ?_
  rw [e71]
  exact c_inM hs (by omega) (fun j hj e => ⟨hs, Or.inr rfl, _, rfl, k1 j hj e⟩) (fun e => ⟨hs, Or.inl rfl, _, rfl, k0 e⟩)
theorem l_rlk {k : Nat} (hs : Sh h) (S : SNr T h n q) (hk : k ≤ n) (kk : Ev 261 44 [.ref 69, .null, .int (nI k), .int (lkI q k), .int (nI 0), .null] [] h Q) : ∀ (j i : Nat), i + j = k → Ev 261 10 [.ref 69, .null, .int (nI k), .int (lkI q i), .int (nI i), .null] [] h Q := by
  obtain ⟨n20, e71, hall⟩ := S
  intro j
  induction j with
  | zero =>
    intro i hj
    refine B_261_10 hs ?_
    try simp (disch := omega) only [lit, tn_nI, z_inb, nI_add, pk_mul, z_le, z_nle, z_lt, z_nlt, z_ne, z_m1, pk_sub, xI_ss, xI_sd, xI_n, eq_self, true_and, and_true, and_self, not_true_eq_false, not_false_eq_true, false_implies, true_implies, implies_true, Classical.not_not, forall_const, true_or, or_true, false_or, or_false, false_and, and_false, if_true, if_false, ite_true, ite_false, reduceIte, reduceCtorEq]
    rw [show i = k by omega]
    exact kk
  | succ j ih =>
    intro i hj
    have e19 := (hall i (by omega)).2.1
    have nx := ih (i + 1) (by omega)
    have el : lkI q (i + 1) = if lkI q i < nI (q i).2.1 then nI (q i).2.1 else lkI q i := rfl
    refine B_261_10 hs ?_
    try simp (disch := omega) only [lit, tn_nI, z_inb, nI_add, pk_mul, z_le, z_nle, z_lt, z_nlt, z_ne, z_m1, pk_sub, xI_ss, xI_sd, xI_n, eq_self, true_and, and_true, and_self, not_true_eq_false, not_false_eq_true, false_implies, true_implies, implies_true, Classical.not_not, forall_const, true_or, or_true, false_or, or_false, false_and, and_false, if_true, if_false, ite_true, ite_false, reduceIte, reduceCtorEq, e19]
    refine ⟨fun z => ?_, fun z => ?_⟩
    · rw [el, if_neg (Int32.not_lt.mpr z)] at nx; exact nx
    · rw [el, if_pos (Int32.not_le.mp z)] at nx; exact nx
/-- the reference's rows of a beginning, d days on -/
def RB (T : Nat → Nat → Int32) (l w d : Nat) (h : XH) : Prop := RM T l h ∧ rq (xI h 109) (bD T w d) ∧ xI h 69 61 = T 0 3
theorem l_rf2 {k w d : Nat} {m : Nat} (A : RB T l w d h) (S : SNr T h n q) (hk : k ≤ n) (hd : d ≤ 30) (hm : m ≤ 30) (k0 : ¬ fit T q k w → Q (.int (nI 0)) h) (kn : (∀ i, i < k → (q i).2.1 = d → dg (bsh T w d) (q i).1 = (q i).2.2) → Ev 261 53 [.ref 69, .null, .int (nI k), .int (nI m), .int (nI d), .int (nI k)] [] h Q) : ∀ (j i : Nat), i + j = k → (∀ v, v < i → (q v).2.1 = d → dg (bsh T w d) (q v).1 = (q v).2.2) → Ev 261 53 [.ref 69, .null, .int (nI k), .int (nI m), .int (nI d), .int (nI i)] [] h Q := by
  obtain ⟨n20, e71, hall⟩ := S
  have p6 := A.1.p6
  have hs := A.1.1
  have hsh := (bD_ok A.1.2.2.2 w d).1.1
  intro j
  induction j with
  | zero => intro i hj hq; rw [show i = k by omega]; exact kn (fun v hv => hq v (by omega))
  | succ j ih =>
    intro i hj hq
    obtain ⟨e18, e19, e20, q1, q2, q3⟩ := hall i (by omega)
    refine B_261_53 hs ?_
    by_cases z : (q i).2.1 = d
    · have er : xI h 109 (8 + (q i).1) = bD T w d (8 + (q i).1) := rq_p A.2.1 (by omega)
      have ed : bD T w d (8 + (q i).1) = nI (dg (bsh T w d) (q i).1) := (dig_r hsh (by omega)).symm
      have hdl := dg_le (s := bsh T w d) (p := (q i).1)
      rw [ed] at er
      try simp (disch := omega) only [lit, tn_nI, z_inb, nI_add, pk_mul, z_le, z_nle, z_lt, z_nlt, z_ne, z_m1, pk_sub, xI_ss, xI_sd, xI_n, eq_self, true_and, and_true, and_self, not_true_eq_false, not_false_eq_true, false_implies, true_implies, implies_true, Classical.not_not, forall_const, true_or, or_true, false_or, or_false, false_and, and_false, if_true, if_false, ite_true, ite_false, reduceIte, reduceCtorEq, e19, z, e18, er, e20]
      by_cases y : dg (bsh T w d) (q i).1 = (q i).2.2
      · rw [y]
        try simp (disch := omega) only [lit, tn_nI, z_inb, nI_add, pk_mul, z_le, z_nle, z_lt, z_nlt, z_ne, z_m1, pk_sub, xI_ss, xI_sd, xI_n, eq_self, true_and, and_true, and_self, not_true_eq_false, not_false_eq_true, false_implies, true_implies, implies_true, Classical.not_not, forall_const, true_or, or_true, false_or, or_false, false_and, and_false, if_true, if_false, ite_true, ite_false, reduceIte, reduceCtorEq]
        exact ih (i + 1) (by omega) (fun v hv hvd => by
          by_cases x : v = i
          · subst x; exact y
          · exact hq v (by omega) hvd)
      · try simp (disch := omega) only [lit, tn_nI, z_inb, nI_add, pk_mul, z_le, z_nle, z_lt, z_nlt, z_ne, z_m1, pk_sub, xI_ss, xI_sd, xI_n, eq_self, true_and, and_true, and_self, not_true_eq_false, not_false_eq_true, false_implies, true_implies, implies_true, Classical.not_not, forall_const, true_or, or_true, false_or, or_false, false_and, and_false, if_true, if_false, ite_true, ite_false, reduceIte, reduceCtorEq]
        refine k0 (fun hf => y ?_)
        have := hf i (by omega)
        rw [z] at this
        exact this
    · try simp (disch := omega) only [lit, tn_nI, z_inb, nI_add, pk_mul, z_le, z_nle, z_lt, z_nlt, z_ne, z_m1, pk_sub, xI_ss, xI_sd, xI_n, eq_self, true_and, and_true, and_self, not_true_eq_false, not_false_eq_true, false_implies, true_implies, implies_true, Classical.not_not, forall_const, true_or, or_true, false_or, or_false, false_and, and_false, if_true, if_false, ite_true, ite_false, reduceIte, reduceCtorEq, e19]
      exact ih (i + 1) (by omega) (fun v hv hvd => by
        by_cases x : v = i
        · subst x; exact absurd hvd z
        · exact hq v (by omega) hvd)
theorem l_rf3 {k w m : Nat} (S : SNr T h0 n q) (hk : k ≤ n) (hm : m ≤ 30) (hall : ∀ i, i < k → (q i).2.1 ≤ m) (k1 : fit T q k w → ∀ h1, Gx SR [58, 61] h0 h1 → Q (.int (nI 1)) h1) (k0 : ¬ fit T q k w → ∀ h1, Gx SR [58, 61] h0 h1 → Q (.int (nI 0)) h1) : ∀ (j d : Nat) (h : XH), d + j = m + 1 → Gx SR [58, 61] h0 h → RB T l w d h → (∀ i, i < k → (q i).2.1 < d → dg (bsh T w (q i).2.1) (q i).1 = (q i).2.2) → Ev 261 44 [.ref 69, .null, .int (nI k), .int (nI m), .int (nI d), .null] [] h Q := by
  have n20 := S.1
  intro j
  induction j with
  | zero =>
    intro d h hj g A hq
    refine B_261_44 A.1.1 ?_
    try simp (disch := omega) only [lit, tn_nI, z_inb, nI_add, pk_mul, z_le, z_nle, z_lt, z_nlt, z_ne, z_m1, pk_sub, xI_ss, xI_sd, xI_n, eq_self, true_and, and_true, and_self, not_true_eq_false, not_false_eq_true, false_implies, true_implies, implies_true, Classical.not_not, forall_const, true_or, or_true, false_or, or_false, false_and, and_false, if_true, if_false, ite_true, ite_false, reduceIte, reduceCtorEq]
    exact k1 (fun i hi => hq i hi (by have := hall i hi; omega)) h g
  | succ j ih =>
    intro d h hj g A hq
    have S' := S.gx g (by decide) (by decide)
    refine B_261_44 A.1.1 ?_
    try simp (disch := omega) only [lit, tn_nI, z_inb, nI_add, pk_mul, z_le, z_nle, z_lt, z_nlt, z_ne, z_m1, pk_sub, xI_ss, xI_sd, xI_n, eq_self, true_and, and_true, and_self, not_true_eq_false, not_false_eq_true, false_implies, true_implies, implies_true, Classical.not_not, forall_const, true_or, or_true, false_or, or_false, false_and, and_false, if_true, if_false, ite_true, ite_false, reduceIte, reduceCtorEq]
    refine l_rf2 A S' hk (by omega) hm (fun z => k0 z h g) (fun hd => ?_) k 0 (by omega) (fun v hv => absurd hv (by omega))
    refine B_261_53 A.1.1 ?_
    try simp (disch := omega) only [lit, tn_nI, z_inb, nI_add, pk_mul, z_le, z_nle, z_lt, z_nlt, z_ne, z_m1, pk_sub, xI_ss, xI_sd, xI_n, eq_self, true_and, and_true, and_self, not_true_eq_false, not_false_eq_true, false_implies, true_implies, implies_true, Classical.not_not, forall_const, true_or, or_true, false_or, or_false, false_and, and_false, if_true, if_false, ite_true, ite_false, reduceIte, reduceCtorEq]
    have t := A.1.2.2.2
    refine c_dayGoes A.1 A.2.1 (bD_ok t w d).1 A.2.2 (fun h1 g1 hr1 => ⟨g1.sh A.1.1 (by decide), ?_⟩)
    have A1 : RB T l w (d + 1) h1 := ⟨A.1.gx g1 (by decide) (by decide), by rw [show bD T w (d + 1) = dayS T (T 0 3) (bD T w d) from dN_s d _]; exact hr1, (g1.f (by decide)).trans A.2.2⟩
    refine ih (d + 1) h1 (by omega) (g.trm g1 (by decide) (by decide) (by decide) (by decide)) A1 (fun i hi hlt => ?_)
    by_cases z : (q i).2.1 = d
    · have := hd i hi z
      rw [z]
      exact this
    · exact hq i hi (by omega)
theorem c_rfit {k w : Nat} {K : Int32 → XH → Prop} (M : RM T l h) (S : SNr T h n q) (hk : k ≤ n) (hw : w < wN T) (k1 : fit T q k w → ∀ h1, Gx SR [58, 61] h h1 → K (nI 1) h1) (k0 : ¬ fit T q k w → ∀ h1, Gx SR [58, 61] h h1 → K (nI 0) h1) : ClI 261 [.ref 69, .int (nI w), .int (nI k)] h K := by
  have n20 := S.1
  refine B_261_0 M.1 (c_begW M hw (fun h1 g1 hr1 e61 => ⟨g1.sh M.1 (by decide), ?_⟩))
  have M1 := M.gx g1 (by decide) (by decide)
  have S1 := S.gx g1 (by decide) (by decide)
  have g1' : Gx SR [58, 61] h h1 := g1.mono (by decide) (by decide)
  refine l_rlk M1.1 S1 hk ?_ k 0 (by omega)
  rcases lkI_n (q := q) k (fun i hi => (S.2.2 i (by omega)).2.2.2.2.1) with ⟨e0, e⟩ | ⟨m, hm, e, hall⟩
  · rw [e]
    refine B_261_44 M1.1 ⟨fun _ => ⟨_, rfl, k1 (fun i hi => absurd hi (by omega)) h1 g1'⟩, fun z => absurd (by decide) z⟩
  · rw [e]
    exact l_rf3 S1 hk hm hall (fun z h2 g2 => ⟨_, rfl, k1 z h2 (g1'.tr g2)⟩) (fun z h2 g2 => ⟨_, rfl, k0 z h2 (g1'.tr g2)⟩) (m + 1) 0 h1 (by omega) Gx.rf ⟨M1, hr1, e61⟩ (fun i hi hlt => absurd hlt (by omega))
theorem l_rfits {k : Nat} {i : Int32} (M : RM T l h0) (S : SNr T h0 n q) (hk : k ≤ n) (kk : ∀ h1, Gx SR [58, 61] h0 h1 → Q (.int (selP (fit T q k) i (wN T) 0 0)) h1) : ∀ (j w m : Nat) (h : XH), w + j = wN T → m ≤ w → Gx SR [58, 61] h0 h → selP (fit T q k) i (wN T) 0 0 = selP (fit T q k) i j w m → Ev 259 20 [.ref 69, .int (nI k), .int i, .int (nI m), .int (nI w)] [] h Q := by
  have W2 := M.wn.2
  have l2 := M.l2
  have n20 := S.1
  intro j
  induction j with
  | zero =>
    intro w m h hj hm g e
    have M' := M.gx g (by decide) (by decide)
    have e6 := M'.wn.1
    have e18 := M'.2.1
    refine B_259_20 M'.1 ?_
    try simp (disch := omega) only [lit, tn_nI, z_inb, nI_add, pk_mul, z_le, z_nle, z_lt, z_nlt, z_ne, z_m1, pk_sub, xI_ss, xI_sd, xI_n, eq_self, true_and, and_true, and_self, not_true_eq_false, not_false_eq_true, false_implies, true_implies, implies_true, Classical.not_not, forall_const, true_or, or_true, false_or, or_false, false_and, and_false, if_true, if_false, ite_true, ite_false, reduceIte, reduceCtorEq, e18, e6]
    have k1 := kk h g
    rw [e, selP_z] at k1
    refine ⟨fun z => ?_, fun z => ?_⟩
    · rw [if_neg (show ¬ i = -1 from z)] at k1; exact k1
    · rw [if_pos (show i = -1 from z)] at k1; exact k1
  | succ j ih =>
    intro w m h hj hm g e
    have M' := M.gx g (by decide) (by decide)
    have e6 := M'.wn.1
    have e18 := M'.2.1
    refine B_259_20 M'.1 ?_
    try simp (disch := omega) only [lit, tn_nI, z_inb, nI_add, pk_mul, z_le, z_nle, z_lt, z_nlt, z_ne, z_m1, pk_sub, xI_ss, xI_sd, xI_n, eq_self, true_and, and_true, and_self, not_true_eq_false, not_false_eq_true, false_implies, true_implies, implies_true, Classical.not_not, forall_const, true_or, or_true, false_or, or_false, false_and, and_false, if_true, if_false, ite_true, ite_false, reduceIte, reduceCtorEq, e18, e6]
    refine c_rfit M' (S.gx g (by decide) (by decide)) hk (by omega) (fun z h1 g1 => ⟨g1.sh M'.1 (by decide), ?_⟩) (fun z h1 g1 => ⟨g1.sh M'.1 (by decide), ?_⟩)
    · rw [selP_1 z] at e
      try simp (disch := omega) only [lit, tn_nI, z_inb, nI_add, pk_mul, z_le, z_nle, z_lt, z_nlt, z_ne, z_m1, pk_sub, xI_ss, xI_sd, xI_n, eq_self, true_and, and_true, and_self, not_true_eq_false, not_false_eq_true, false_implies, true_implies, implies_true, Classical.not_not, forall_const, true_or, or_true, false_or, or_false, false_and, and_false, if_true, if_false, ite_true, ite_false, reduceIte, reduceCtorEq]
      refine ⟨fun y => ?_, fun y => ?_⟩
      · rw [if_neg y] at e
        exact ih (w + 1) (m + 1) h1 (by omega) (by omega) (g.tr g1) e
      · rw [if_pos y] at e
        have k1 := kk h1 (g.tr g1)
        rw [e] at k1
        exact k1
    · rw [selP_0 z] at e
      try simp (disch := omega) only [lit, tn_nI, z_inb, nI_add, pk_mul, z_le, z_nle, z_lt, z_nlt, z_ne, z_m1, pk_sub, xI_ss, xI_sd, xI_n, eq_self, true_and, and_true, and_self, not_true_eq_false, not_false_eq_true, false_implies, true_implies, implies_true, Classical.not_not, forall_const, true_or, or_true, false_or, or_false, false_and, and_false, if_true, if_false, ite_true, ite_false, reduceIte, reduceCtorEq]
      exact ih (w + 1) m h1 (by omega) (by omega) (g.tr g1) e
theorem c_rFits {x i : Int32} {K : Int32 → XH → Prop} (M : RM T l h) (S : SNr T h n q) (k : ∀ h1, Gx SR [58, 61] h h1 → K (oFits T n q x i) h1) : ClI 259 [.ref 69, .int x, .int i] h K := by
  have n20 := S.1
  unfold oFits at k
  refine B_259_0 M.1 (c_rknown M.1 S (fun j hj e => ⟨M.1, ?_⟩) (fun e => ⟨M.1, ?_⟩))
  · subst e
    rw [opN_1 hj (by omega)] at k
    try simp (disch := omega) only [lit, tn_nI, z_inb, nI_add, pk_mul, z_le, z_nle, z_lt, z_nlt, z_ne, z_m1, pk_sub, xI_ss, xI_sd, xI_n, eq_self, true_and, and_true, and_self, not_true_eq_false, not_false_eq_true, false_implies, true_implies, implies_true, Classical.not_not, forall_const, true_or, or_true, false_or, or_false, false_and, and_false, if_true, if_false, ite_true, ite_false, reduceIte, reduceCtorEq]
    refine ⟨fun z => ?_, fun z => ?_⟩
    · have z : (-1 : Int32) ≤ i := z
      rw [if_neg (Int32.not_lt.mpr z)] at k
      exact l_rfits M S (by omega) (fun h1 g1 => ⟨_, rfl, k h1 g1⟩) (wN T) 0 0 h (by omega) (by omega) Gx.rf rfl
    · have z : ¬ (-1 : Int32) ≤ i := z
      rw [if_pos (Int32.not_le.mp z)] at k
      exact ⟨_, rfl, k h Gx.rf⟩
  · rw [opN_0 e] at k
    try simp (disch := omega) only [lit, tn_nI, z_inb, nI_add, pk_mul, z_le, z_nle, z_lt, z_nlt, z_ne, z_m1, pk_sub, xI_ss, xI_sd, xI_n, eq_self, true_and, and_true, and_self, not_true_eq_false, not_false_eq_true, false_implies, true_implies, implies_true, Classical.not_not, forall_const, true_or, or_true, false_or, or_false, false_and, and_false, if_true, if_false, ite_true, ite_false, reduceIte, reduceCtorEq]
    exact ⟨_, rfl, k h Gx.rf⟩
theorem andn_or {b x y : Int32} : b &&& ((x ||| y) ^^^ (-1)) = (b &&& (x ^^^ (-1))) &&& (y ^^^ (-1)) := by
  refine gb_ext (fun i hi => ?_)
  rw [gb_and, gb_and, gb_and, gb_not hi, gb_not hi, gb_not hi, gb_or]
  cases gb b i <;> cases gb x i <;> cases gb y i <;> rfl
theorem l_rub {k v w : Nat} {b : Int32} (M : RM T l h) (hv : v < 2 ^ 31) (hw : w < 2 ^ 31) (kk : Ev 262 17 [.ref 69, .int (nI k), .int (nI v), .int (b &&& (ub T v w (tn (T 0 0)) ^^^ (-1))), .int (nI (w + 1)), .null] [] h Q) : ∀ (j f : Nat), f + j = tn (T 0 0) → Ev 262 68 [.ref 69, .int (nI k), .int (nI v), .int (b &&& (ub T v w f ^^^ (-1))), .int (nI w), .int (nI f)] [] h Q := by
  have l2 := M.l2
  have f8 := M.f8
  have e18 := M.2.1
  have e1 := M.nf
  intro j
  induction j with
  | zero =>
    intro f hj
    refine B_262_68 M.1 ?_
    rw [e18, tn_nI (by omega), e1, nI_1, nI_1]
    refine ⟨inb (by omega) (by decide), fun _ => ?_, fun z => absurd (nI_le (by omega) (by omega)) z⟩
    rw [show f = tn (T 0 0) by omega]
    exact kk
  | succ j ih =>
    intro f hj
    have nx := ih (f + 1) (by omega)
    have eu : ub T v w (f + 1) = ub T v w f ||| (if fIn (mo T) v f = fIn (mo T) w f then 0 else bt f) := rfl
    have m3 := (mo_n M.2.2.2.n (f := f) (by omega)).2.2
    have i1 : fIn (mo T) v f ≤ mo T f := fIn_lt
    have i2 : fIn (mo T) w f ≤ mo T f := fIn_lt
    refine B_262_68 M.1 ?_
    rw [e18, tn_nI (by omega), e1, nI_1, nI_1]
    refine ⟨inb (by omega) (by decide), fun z => absurd z (nI_ge (by omega) (by omega)), fun _ => ?_⟩
    refine c_fIn M (by omega) hw ⟨M.1, c_fIn M (by omega) hv ⟨M.1, fun z => ?_, fun z => ?_⟩⟩
    · have z := (nI_eq (by omega) (by omega)).mp z
      rw [eu, if_pos z.symm, Int32.or_zero] at nx
      exact nx
    · have z : ¬ fIn (mo T) v f = fIn (mo T) w f := fun y => z (by rw [y])
      rw [eu, if_neg z, andn_or] at nx
      exact nx
theorem l_rsure {k : Nat} (M : RM T l h0) (S : SNr T h0 n q) (hk : k ≤ n) (kk : ∀ h1, Gx SR [58, 61] h0 h1 → Q (.int (sur T q k (wN T) 0 none 0)) h1) : ∀ (j w : Nat) (f : Option Nat) (b : Int32) (h : XH), w + j = wN T → (∀ v, f = some v → v < wN T) → Gx SR [58, 61] h0 h → sur T q k (wN T) 0 none 0 = sur T q k j w f b → Ev 262 17 [.ref 69, .int (nI k), .int (fsW f), .int b, .int (nI w), .null] [] h Q := by
  have W2 := M.wn.2
  have l2 := M.l2
  have n20 := S.1
  intro j
  induction j with
  | zero =>
    intro w f b h hj hf g e
    have M' := M.gx g (by decide) (by decide)
    have e6 := M'.wn.1
    have e18 := M'.2.1
    refine B_262_17 M'.1 ?_
    try simp (disch := omega) only [lit, tn_nI, z_inb, nI_add, pk_mul, z_le, z_nle, z_lt, z_nlt, z_ne, z_m1, pk_sub, xI_ss, xI_sd, xI_n, eq_self, true_and, and_true, and_self, not_true_eq_false, not_false_eq_true, false_implies, true_implies, implies_true, Classical.not_not, forall_const, true_or, or_true, false_or, or_false, false_and, and_false, if_true, if_false, ite_true, ite_false, reduceIte, reduceCtorEq, e18, e6]
    have k1 := kk h g
    have e : sur T q k (wN T) 0 none 0 = b := e
    rw [e] at k1
    exact k1
  | succ j ih =>
    intro w f b h hj hf g e
    have M' := M.gx g (by decide) (by decide)
    have e6 := M'.wn.1
    have e18 := M'.2.1
    refine B_262_17 M'.1 ?_
    rw [e18, tn_nI (by omega), e6, nI_1]
    refine ⟨inb (by omega) (by decide), fun z => absurd z (nI_ge (by omega) (by omega)), fun _ => ?_⟩
    refine c_rfit M' (S.gx g (by decide) (by decide)) hk (by omega) (fun z h1 g1 => ⟨g1.sh M'.1 (by decide), fun _ => ?_, fun y => absurd (by decide) y⟩) (fun z h1 g1 => ⟨g1.sh M'.1 (by decide), fun y => absurd rfl y, fun _ => ?_⟩)
    · rw [sur_1 z] at e
      have g2 := g.tr g1
      have M1 := M.gx g2 (by decide) (by decide)
      cases f with
      | none =>
        have e18' := M1.2.1
        have e79 : xI h1 79 l = T 0 0 := M1.2.2.1.2.1.1
        refine ⟨fun y => absurd y (by decide), fun _ => ⟨by rw [e18']; exact inb (by omega) (by decide), ?_⟩⟩
        rw [e18', tn_nI (by omega), e79]
        have := l_rub (k := k) (v := w) (w := w) (b := allB T) M1 (by omega) (by omega) (Q := Q) (by
          rw [ub_self, show ((0 : Int32) ^^^ (-1)) = -1 from by decide, Int32.and_neg_one]
          exact ih (w + 1) (some w) _ h1 (by omega) (fun v hv => by cases hv; omega) g2 e) (tn (T 0 0)) 0 (by omega)
        rw [show ub T w w 0 = 0 from rfl, show ((0 : Int32) ^^^ (-1)) = -1 from by decide, Int32.and_neg_one] at this
        exact this
      | some v =>
        have hv := hf v rfl
        refine ⟨fun _ => ?_, fun y => absurd (nI_pos' (by omega)) y⟩
        have := l_rub (k := k) (v := v) (w := w) (b := b) M1 (by omega) (by omega) (Q := Q) (ih (w + 1) (some v) _ h1 (by omega) hf g2 e) (tn (T 0 0)) 0 (by omega)
        rw [show ub T v w 0 = 0 from rfl, show ((0 : Int32) ^^^ (-1)) = -1 from by decide, Int32.and_neg_one] at this
        exact this
    · rw [sur_0 z] at e
      exact ih (w + 1) f b h1 (by omega) hf (g.tr g1) e
theorem c_rSure {x : Int32} {K : Int32 → XH → Prop} (M : RM T l h) (S : SNr T h n q) (k : ∀ h1, Gx SR [58, 61] h h1 → K (opN x (n + 1) (-1) (fun k => sur T q k (wN T) 0 none 0)) h1) : ClI 262 [.ref 69, .int x] h K := by
  have n20 := S.1
  refine B_262_0 M.1 (c_rknown M.1 S (fun j hj e => ⟨M.1, ?_⟩) (fun e => ⟨M.1, ?_⟩))
  · subst e
    rw [opN_1 hj (by omega)] at k
    try simp (disch := omega) only [lit, tn_nI, z_inb, nI_add, pk_mul, z_le, z_nle, z_lt, z_nlt, z_ne, z_m1, pk_sub, xI_ss, xI_sd, xI_n, eq_self, true_and, and_true, and_self, not_true_eq_false, not_false_eq_true, false_implies, true_implies, implies_true, Classical.not_not, forall_const, true_or, or_true, false_or, or_false, false_and, and_false, if_true, if_false, ite_true, ite_false, reduceIte, reduceCtorEq]
    exact l_rsure M S (by omega) (fun h1 g1 => ⟨_, rfl, k h1 g1⟩) (wN T) 0 none 0 h (by omega) (fun v e => by cases e) Gx.rf rfl
  · rw [opN_0 e] at k
    try simp (disch := omega) only [lit, tn_nI, z_inb, nI_add, pk_mul, z_le, z_nle, z_lt, z_nlt, z_ne, z_m1, pk_sub, xI_ss, xI_sd, xI_n, eq_self, true_and, and_true, and_self, not_true_eq_false, not_false_eq_true, false_implies, true_implies, implies_true, Classical.not_not, forall_const, true_or, or_true, false_or, or_false, false_and, and_false, if_true, if_false, ite_true, ite_false, reduceIte, reduceCtorEq]
    exact ⟨_, rfl, k h Gx.rf⟩
end RFt

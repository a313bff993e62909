/-! NEXT: the reference -/
abbrev SZ : List Nat := [106, 107, 109, 110, 111, 112, 121]
section RN
variable {T : Nat → Nat → Int32} {l m : Nat} {q : Nat → Nat × Nat × Nat} {h0 h : XH} {Q : Value → XH → Prop} {k n p : Nat}
theorem l_rn0 {j0 : Nat} (hs0 : Sh h0) (kk : ∀ h1, Gx [121] [] h0 h1 → (∀ i, i < 30 → xI h1 121 i = nI 0) → Ev 263 56 [.ref 69, .int (nI k), .int (nI n), .int (nI j0), .int (nI 0), .int (nI 0), .null, .null, .null, .null] [] h1 Q) : ∀ (j i : Nat) (h : XH), i + j = 30 → Gx [121] [] h0 h → (∀ v, v < i → xI h 121 v = nI 0) → Ev 263 29 [.ref 69, .int (nI k), .int (nI n), .int (nI j0), .int (nI i), .null, .null, .null, .null, .null] [] h Q := by
  intro j
  induction j with
  | zero =>
    intro i h hj g hq
    refine B_263_29 (g.sh hs0 (by decide)) ?_
    try simp (disch := omega) only [lit, tn_nI, z_inb, nI_add, pk_mul, z_le, z_nle, z_lt, z_nlt, z_ne, z_m1, pk_sub, xI_ss, xI_sd, xI_n, eq_self, true_and, and_true, and_self, not_true_eq_false, not_false_eq_true, false_implies, true_implies, implies_true, Classical.not_not, forall_const, true_or, or_true, false_or, or_false, false_and, and_false, if_true, if_false, ite_true, ite_false, reduceIte, reduceCtorEq]
    exact kk h g (fun v hv => hq v (by omega))
  | succ j ih =>
    intro i h hj g hq
    refine B_263_29 (g.sh hs0 (by decide)) ?_
    try simp (disch := omega) only [lit, tn_nI, z_inb, nI_add, pk_mul, z_le, z_nle, z_lt, z_nlt, z_ne, z_m1, pk_sub, xI_ss, xI_sd, xI_n, eq_self, true_and, and_true, and_self, not_true_eq_false, not_false_eq_true, false_implies, true_implies, implies_true, Classical.not_not, forall_const, true_or, or_true, false_or, or_false, false_and, and_false, if_true, if_false, ite_true, ite_false, reduceIte, reduceCtorEq]
    refine ih (i + 1) _ (by omega) (g.set (by decide) (by decide)) (fun v hv => ?_)
    by_cases e : v = i
    · subst e; exact xI_ss
    · rw [xI_sd e]; exact hq v (by omega)
theorem l_rn1 {j0 w a : Nat} (M : RM T l h0) (hr : rq (xI h0 109) (bD T w n)) (hf : fit T q k w) (hw : w < wN T) (kk : ∀ h1, Gx [121] [] h0 h1 → (∀ p s, p < tn (T 0 1) → s < 5 → xI h1 121 (5 * p + s) = nI (gN T q k n p s (w + 1))) → Ev 263 144 [.ref 69, .int (nI k), .int (nI n), .int (nI j0), .int (nI a), .int (nI w), .null, .null, .null, .null] [] h1 Q) : ∀ (j p : Nat) (h : XH), p + j = tn (T 0 1) → Gx [121] [] h0 h → (∀ p' s, p' < tn (T 0 1) → s < 5 → xI h 121 (5 * p' + s) = nI (if p' < p then gN T q k n p' s (w + 1) else gN T q k n p' s w)) → Ev 263 100 [.ref 69, .int (nI k), .int (nI n), .int (nI j0), .int (nI a), .int (nI w), .int (nI p), .null, .null, .null] [] h Q := by
  have W2 := M.wn.2
  have p6 := M.p6
  have l2 := M.l2
  have hsh := (bD_ok M.2.2.2 w n).1.1
  intro j
  induction j with
  | zero =>
    intro p h hj g hq
    have M' := M.gx g (by decide) (by decide)
    have e1 := M'.np
    have e18 := M'.2.1
    refine B_263_100 M'.1 ?_
    try simp (disch := omega) only [lit, tn_nI, z_inb, nI_add, pk_mul, z_le, z_nle, z_lt, z_nlt, z_ne, z_m1, pk_sub, xI_ss, xI_sd, xI_n, eq_self, true_and, and_true, and_self, not_true_eq_false, not_false_eq_true, false_implies, true_implies, implies_true, Classical.not_not, forall_const, true_or, or_true, false_or, or_false, false_and, and_false, if_true, if_false, ite_true, ite_false, reduceIte, reduceCtorEq, e18, e1]
    exact kk h g (fun p' s hp' hs => by rw [hq p' s hp' hs, if_pos (by omega)])
  | succ j ih =>
    intro p h hj g hq
    have M' := M.gx g (by decide) (by decide)
    have e1 := M'.np
    have e18 := M'.2.1
    have hd := dg_le (s := bsh T w n) (p := p)
    have er : xI h 109 (8 + p) = nI (dg (bsh T w n) p) := by
      rw [g.at (by decide) (by decide), rq_p hr (by omega)]
      exact (dig_r hsh (by omega)).symm
    have e21 := hq p (dg (bsh T w n) p) (by omega) (by omega)
    rw [if_neg (by omega)] at e21
    refine B_263_100 M'.1 ?_
    try simp (disch := omega) only [lit, tn_nI, z_inb, nI_add, pk_mul, z_le, z_nle, z_lt, z_nlt, z_ne, z_m1, pk_sub, xI_ss, xI_sd, xI_n, eq_self, true_and, and_true, and_self, not_true_eq_false, not_false_eq_true, false_implies, true_implies, implies_true, Classical.not_not, forall_const, true_or, or_true, false_or, or_false, false_and, and_false, if_true, if_false, ite_true, ite_false, reduceIte, reduceCtorEq, e18, e1, er, e21]
    refine ih (p + 1) _ (by omega) (g.set (by decide) (by decide)) (fun p' s hp' hs => ?_)
    by_cases e : p' = p
    · subst e
      rw [if_pos (by omega)]
      by_cases y : s = dg (bsh T w n) p'
      · subst y
        rw [xI_ss]
        unfold gN
        rw [cntP_1 ⟨hf, rfl⟩]
      · rw [xI_sd (by omega), hq p' s hp' hs, if_neg (by omega)]
        unfold gN
        rw [cntP_0 (fun x => y x.2.symm)]
    · rw [xI_sd (by omega), hq p' s hp' hs]
      by_cases z : p' < p
      · rw [if_pos z, if_pos (by omega)]
      · rw [if_neg z, if_neg (by omega)]
theorem l_rn2 {j0 : Nat} (M : RM T l h0) (S : SNr T h0 m q) (hk : k ≤ m) (hn : n ≤ 30) (k0 : cntP (fit T q k) (wN T) = 0 → ∀ h1, Gx SZ [58, 61] h0 h1 → Q (.int (-2)) h1) (k1 : ¬ cntP (fit T q k) (wN T) = 0 → ∀ h1, Gx SZ [58, 61] h0 h1 → (∀ p s, p < tn (T 0 1) → s < 5 → xI h1 121 (5 * p + s) = nI (gN T q k n p s (wN T))) → Ev 263 169 [.ref 69, .null, .null, .int (nI j0), .null, .int (-2), .int (-2), .int 0, .null, .null] [] h1 Q) : ∀ (j w : Nat) (h : XH), w + j = wN T → Gx SZ [58, 61] h0 h → (∀ p s, p < tn (T 0 1) → s < 5 → xI h 121 (5 * p + s) = nI (gN T q k n p s w)) → Ev 263 56 [.ref 69, .int (nI k), .int (nI n), .int (nI j0), .int (nI (cntP (fit T q k) w)), .int (nI w), .null, .null, .null, .null] [] h Q := by
  have W2 := M.wn.2
  have l2 := M.l2
  intro j
  induction j with
  | zero =>
    intro w h hj g hq
    have M' := M.gx g (by decide) (by decide)
    have e6 := M'.wn.1
    have e18 := M'.2.1
    have hw : w = wN T := by omega
    subst hw
    have hc := cntP_le (P := fit T q k) (wN T)
    refine B_263_56 M'.1 ?_
    rw [e18, tn_nI (by omega), e6]
    refine ⟨inb (by omega) (by decide), fun _ => ⟨fun z => k1 (fun y => z (by rw [y]; rfl)) h g hq, fun z => k0 ((nI_eq (b := 0) (by omega) (by decide)).mp (Classical.not_not.mp z)) h g⟩, fun z => absurd (nI_le (Nat.le_refl _) (by omega)) z⟩
  | succ j ih =>
    intro w h hj g hq
    have M' := M.gx g (by decide) (by decide)
    have e6 := M'.wn.1
    have e18 := M'.2.1
    refine B_263_56 M'.1 ?_
    try simp (disch := omega) only [lit, tn_nI, z_inb, nI_add, pk_mul, z_le, z_nle, z_lt, z_nlt, z_ne, z_m1, pk_sub, xI_ss, xI_sd, xI_n, eq_self, true_and, and_true, and_self, not_true_eq_false, not_false_eq_true, false_implies, true_implies, implies_true, Classical.not_not, forall_const, true_or, or_true, false_or, or_false, false_and, and_false, if_true, if_false, ite_true, ite_false, reduceIte, reduceCtorEq, e18, e6]
    refine c_rfit M' (S.gx g (by decide) (by decide)) hk (by omega) (fun z h1 g1 => ⟨g1.sh M'.1 (by decide), ?_⟩) (fun z h1 g1 => ⟨g1.sh M'.1 (by decide), ?_⟩)
    · try simp (disch := omega) only [lit, tn_nI, z_inb, nI_add, pk_mul, z_le, z_nle, z_lt, z_nlt, z_ne, z_m1, pk_sub, xI_ss, xI_sd, xI_n, eq_self, true_and, and_true, and_self, not_true_eq_false, not_false_eq_true, false_implies, true_implies, implies_true, Classical.not_not, forall_const, true_or, or_true, false_or, or_false, false_and, and_false, if_true, if_false, ite_true, ite_false, reduceIte, reduceCtorEq]
      have M1 := M'.gx g1 (by decide) (by decide)
      refine c_begW M1 (by omega) (fun h2 g2 hr2 e61 => ⟨g2.sh M1.1 (by decide), ?_⟩)
      have M2 := M1.gx g2 (by decide) (by decide)
      refine c_goes (by omega) M2 e61 hr2 (bR_ok M.2.2.2 w).1 (fun h3 g3 hr3 => ⟨g3.sh M2.1 (by decide), ?_⟩)
      have M3 := M2.gx g3 (by decide) (by decide)
      have gA : Gx SZ [58, 61] h0 h3 := ((g.trm (S := SZ) (F := [58, 61]) g1 (by decide) (by decide) (by decide) (by decide)).trm (S := SZ) (F := [58, 61]) g2 (by decide) (by decide) (by decide) (by decide)).trm g3 (by decide) (by decide) (by decide) (by decide)
      have e21 : xI h3 121 = xI h 121 := ((g3.at (by decide) (by decide)).trans (g2.at (by decide) (by decide))).trans (g1.at (by decide) (by decide))
      refine l_rn1 M3 hr3 z (by omega) (fun h4 g4 q4 => ?_) (tn (T 0 1)) 0 h3 (by omega) Gx.rf (fun p' s hp' hs => by rw [e21, if_neg (by omega)]; exact hq p' s hp' hs)
      refine B_263_144 (g4.sh M3.1 (by decide)) ?_
      try simp (disch := omega) only [lit, tn_nI, z_inb, nI_add, pk_mul, z_le, z_nle, z_lt, z_nlt, z_ne, z_m1, pk_sub, xI_ss, xI_sd, xI_n, eq_self, true_and, and_true, and_self, not_true_eq_false, not_false_eq_true, false_implies, true_implies, implies_true, Classical.not_not, forall_const, true_or, or_true, false_or, or_false, false_and, and_false, if_true, if_false, ite_true, ite_false, reduceIte, reduceCtorEq]
      have := ih (w + 1) h4 (by omega) (gA.trm g4 (by decide) (by decide) (by decide) (by decide)) q4
      rw [cntP_1 z] at this
      exact this
    · try simp (disch := omega) only [lit, tn_nI, z_inb, nI_add, pk_mul, z_le, z_nle, z_lt, z_nlt, z_ne, z_m1, pk_sub, xI_ss, xI_sd, xI_n, eq_self, true_and, and_true, and_self, not_true_eq_false, not_false_eq_true, false_implies, true_implies, implies_true, Classical.not_not, forall_const, true_or, or_true, false_or, or_false, false_and, and_false, if_true, if_false, ite_true, ite_false, reduceIte, reduceCtorEq]
      refine B_263_144 (g1.sh M'.1 (by decide)) ?_
      try simp (disch := omega) only [lit, tn_nI, z_inb, nI_add, pk_mul, z_le, z_nle, z_lt, z_nlt, z_ne, z_m1, pk_sub, xI_ss, xI_sd, xI_n, eq_self, true_and, and_true, and_self, not_true_eq_false, not_false_eq_true, false_implies, true_implies, implies_true, Classical.not_not, forall_const, true_or, or_true, false_or, or_false, false_and, and_false, if_true, if_false, ite_true, ite_false, reduceIte, reduceCtorEq]
      have := ih (w + 1) h1 (by omega) (g.trm g1 (by decide) (by decide) (by decide) (by decide)) (fun p s hp hs => by
        rw [g1.at (by decide) (by decide), hq p s hp hs]
        unfold gN
        rw [cntP_0 (fun x => z x.1)])
      rw [cntP_0 z] at this
      exact this
def nxG (T : Nat → Nat → Int32) (f : Nat → Nat) (b : Option Nat) : Int32 := match b with
  | none => -2
  | some v => nI (f v)
theorem l_rn3 {j0 : Nat} (M : RM T l h) (hj0 : j0 < 2) (h21 : ∀ p s, p < tn (T 0 1) → s < 5 → xI h 121 (5 * p + s) = nI (gN T q k n p s (wN T))) (kk : Q (.int (match nx T q k n (tn (T 0 1)) 0 none with | none => -2 | some v => if j0 = 0 then nI v else nI (mst T q k n v))) h) : ∀ (j p : Nat) (b : Option Nat), p + j = tn (T 0 1) → (∀ v, b = some v → v < 6) → nx T q k n (tn (T 0 1)) 0 none = nx T q k n j p b → Ev 263 169 [.ref 69, .null, .null, .int (nI j0), .null, .int (nxW b), .int (nxG T (mst T q k n) b), .int (nI p), .null, .null] [] h Q := by
  have W2 := M.wn.2
  have l2 := M.l2
  have p6 := M.p6
  have e1 := M.np
  have e18 := M.2.1
  have hs := M.1
  have lmx : ∀ (b : Option Nat) (p : Nat), p < tn (T 0 1) → (Ev 263 189 [.ref 69, .null, .null, .int (nI j0), .null, .int (nxW b), .int (nxG T (mst T q k n) b), .int (nI p), .int (nI (mst T q k n p)), .int (nI 5)] [] h Q) → ∀ j s, s + j = 5 → Ev 263 189 [.ref 69, .null, .null, .int (nI j0), .null, .int (nxW b), .int (nxG T (mst T q k n) b), .int (nI p), .int (nI (mx5 (fun s => gN T q k n p s (wN T)) s)), .int (nI s)] [] h Q := by
    intro b p hp hfin j
    induction j with
    | zero => intro s hj; rw [show s = 5 by omega]; exact hfin
    | succ j ih =>
      intro s hj
      have e := h21 p s hp (by omega)
      have c1 : gN T q k n p s (wN T) ≤ wN T := cntP_le _
      have c2 := mx5_le (g := fun s => gN T q k n p s (wN T)) (b := wN T) s (fun i _ => cntP_le _)
      have nxx := ih (s + 1) (by omega)
      have em : mx5 (fun s => gN T q k n p s (wN T)) (s + 1) = if mx5 (fun s => gN T q k n p s (wN T)) s < gN T q k n p s (wN T) then gN T q k n p s (wN T) else mx5 (fun s => gN T q k n p s (wN T)) s := rfl
      refine B_263_189 hs ?_
      refine ⟨fun z => absurd z (nI_ge (a := s) (b := 5) (by omega) (by decide)), fun _ => ?_⟩
      have ei : (5 : Int32) * nI p + nI s = nI (5 * p + s) := by rw [show (5 : Int32) = nI 5 from rfl, pk_mul, nI_add]
      rw [ei, tn_nI (by omega), e]
      refine ⟨inb (by omega) (by decide), fun z => ?_, fun z => ⟨inb (by omega) (by decide), ?_⟩⟩
      · have z := (nI_leI (by omega) (by omega)).mp z
        rw [em, if_neg (by omega)] at nxx
        refine B_263_226 hs ?_
        rw [nI_1]
        exact nxx
      · have z : ¬ gN T q k n p s (wN T) ≤ mx5 (fun s => gN T q k n p s (wN T)) s := fun y => z (nI_le y (by omega))
        rw [em, if_pos (by omega)] at nxx
        refine B_263_226 hs ?_
        rw [nI_1]
        exact nxx
  intro j
  induction j with
  | zero =>
    intro p b hj hb e
    refine B_263_169 hs ?_
    rw [e18, tn_nI (by omega), e1]
    refine ⟨inb (by omega) (by decide), fun _ => ?_, fun z => absurd (nI_le (by omega) (by omega)) z⟩
    have e : nx T q k n (tn (T 0 1)) 0 none = b := e
    rw [e] at kk
    cases b with
    | none => exact ⟨fun _ => kk, fun _ => kk⟩
    | some v =>
      have kk : Q (.int (if j0 = 0 then nI v else nI (mst T q k n v))) h := kk
      refine ⟨fun z => ?_, fun z => ?_⟩
      · rw [if_neg (fun y => z (by rw [y]; rfl))] at kk; exact kk
      · rw [if_pos ((nI_eq (b := 0) (by omega) (by decide)).mp (Classical.not_not.mp z))] at kk; exact kk
  | succ j ih =>
    intro p b hj hb e
    have hml := mst_le (T := T) (q := q) (k := k) (n := n) (p := p)
    refine B_263_169 hs ?_
    rw [e18, tn_nI (by omega), e1]
    refine ⟨inb (by omega) (by decide), fun z => absurd z (nI_ge (by omega) (by omega)), fun _ => ?_⟩
    refine lmx b p (by omega) ?_ 5 0 (by decide)
    have yes : nx T q k n (tn (T 0 1)) 0 none = nx T q k n j (p + 1) (some p) → Ev 263 247 [.ref 69, .null, .null, .int (nI j0), .null, .null, .null, .int (nI p), .int (nI (mst T q k n p)), .null] [] h Q := by
      intro e
      refine B_263_247 hs (B_263_255 hs ?_)
      rw [nI_1]
      exact ih (p + 1) (some p) (by omega) (fun v hv => by cases hv; omega) e
    refine B_263_189 hs ⟨fun _ => ?_, fun z => absurd (by decide) z⟩
    cases b with
    | none => exact ⟨fun _ => yes e, fun z => absurd (by decide) z⟩
    | some v =>
      have hv := hb v rfl
      have hmv := mst_le (T := T) (q := q) (k := k) (n := n) (p := v)
      have e : nx T q k n (tn (T 0 1)) 0 none = nx T q k n j (p + 1) (if mst T q k n p < mst T q k n v then some p else some v) := e
      refine ⟨fun z => absurd z (nI_pos (by omega)), fun _ => ⟨fun z => ?_, fun z => ?_⟩⟩
      · have z := (nI_ltI (by omega) (by omega)).mp z
        rw [if_pos z] at e
        exact yes e
      · have z : ¬ mst T q k n p < mst T q k n v := fun y => z (nI_lt y (by omega))
        rw [if_neg z] at e
        refine B_263_255 hs ?_
        rw [nI_1]
        exact ih (p + 1) (some v) (by omega) hb e
theorem c_isMonth {x : Int32} {K : Int32 → XH → Prop} (hs : Sh h) (k1 : ∀ j, j < 31 → x = nI j → K (nI 1) h) (k0 : (x < 0 ∨ nI 31 ≤ x) → K (nI 0) h) : ClI 251 [.int x] h K :=
  B_251_0 hs (c_inM (m := 30) hs (by decide) (fun j hj e => ⟨hs, Or.inr rfl, _, rfl, k1 j hj e⟩) (fun e => ⟨hs, Or.inl rfl, _, rfl, k0 e⟩))
theorem c_rNext {x y z : Int32} {K : Int32 → XH → Prop} (M : RM T l h) (S : SNr T h m q) (k : ∀ h1, Gx SZ [58, 61] h h1 → K (oNext T m q x y z) h1) : ClI 263 [.ref 69, .int x, .int y, .int z] h K := by
  have m20 := S.1
  unfold oNext at k
  refine B_263_0 M.1 (c_rknown M.1 S (fun kn hj e => ⟨M.1, ?_⟩) (fun e => ⟨M.1, ?_⟩))
  · subst e
    rw [opN_1 hj (by omega)] at k
    try simp (disch := omega) only [lit, tn_nI, z_inb, nI_add, pk_mul, z_le, z_nle, z_lt, z_nlt, z_ne, z_m1, pk_sub, xI_ss, xI_sd, xI_n, eq_self, true_and, and_true, and_self, not_true_eq_false, not_false_eq_true, false_implies, true_implies, implies_true, Classical.not_not, forall_const, true_or, or_true, false_or, or_false, false_and, and_false, if_true, if_false, ite_true, ite_false, reduceIte, reduceCtorEq]
    refine c_isMonth M.1 (fun n hn e => ⟨M.1, ?_⟩) (fun e => ⟨M.1, ?_⟩)
    · subst e
      rw [opN_1 hn (by omega)] at k
      try simp (disch := omega) only [lit, tn_nI, z_inb, nI_add, pk_mul, z_le, z_nle, z_lt, z_nlt, z_ne, z_m1, pk_sub, xI_ss, xI_sd, xI_n, eq_self, true_and, and_true, and_self, not_true_eq_false, not_false_eq_true, false_implies, true_implies, implies_true, Classical.not_not, forall_const, true_or, or_true, false_or, or_false, false_and, and_false, if_true, if_false, ite_true, ite_false, reduceIte, reduceCtorEq]
      refine c_inM (m := 1) M.1 (by decide) (fun w hw e => ⟨M.1, ?_⟩) (fun e => ⟨M.1, ?_⟩)
      · subst e
        rw [opN_1 hw (by omega)] at k
        unfold aNext at k
        try simp (disch := omega) only [lit, tn_nI, z_inb, nI_add, pk_mul, z_le, z_nle, z_lt, z_nlt, z_ne, z_m1, pk_sub, xI_ss, xI_sd, xI_n, eq_self, true_and, and_true, and_self, not_true_eq_false, not_false_eq_true, false_implies, true_implies, implies_true, Classical.not_not, forall_const, true_or, or_true, false_or, or_false, false_and, and_false, if_true, if_false, ite_true, ite_false, reduceIte, reduceCtorEq]
        refine l_rn0 M.1 (fun h1 g1 e1 => ?_) 30 0 h (by decide) Gx.rf (fun v hv => absurd hv (by omega))
        have M1 := M.gx g1 (by decide) (by decide)
        have p6 := M.p6
        refine l_rn2 M1 (S.gx g1 (by decide) (by decide)) (by omega) (by omega) (fun hz h2 g2 => ?_) (fun hz h2 g2 q2 => ?_) (wN T) 0 h1 (by omega) Gx.rf (fun p s hp hs => e1 _ (by omega))
        · have k1 := k h2 (g1.trm g2 (by decide) (by decide) (by decide) (by decide))
          rw [if_pos hz] at k1
          exact ⟨_, rfl, k1⟩
        · have k1 := k h2 (g1.trm g2 (by decide) (by decide) (by decide) (by decide))
          rw [if_neg hz] at k1
          exact l_rn3 (M1.gx g2 (by decide) (by decide)) hw q2 ⟨_, rfl, k1⟩ (tn (T 0 1)) 0 none (by omega) (fun v e => by cases e) rfl
      · rw [opN_0 e] at k
        try simp (disch := omega) only [lit, tn_nI, z_inb, nI_add, pk_mul, z_le, z_nle, z_lt, z_nlt, z_ne, z_m1, pk_sub, xI_ss, xI_sd, xI_n, eq_self, true_and, and_true, and_self, not_true_eq_false, not_false_eq_true, false_implies, true_implies, implies_true, Classical.not_not, forall_const, true_or, or_true, false_or, or_false, false_and, and_false, if_true, if_false, ite_true, ite_false, reduceIte, reduceCtorEq]
        exact B_263_24 M.1 ⟨_, rfl, k h Gx.rf⟩
    · rw [opN_0 e] at k
      try simp (disch := omega) only [lit, tn_nI, z_inb, nI_add, pk_mul, z_le, z_nle, z_lt, z_nlt, z_ne, z_m1, pk_sub, xI_ss, xI_sd, xI_n, eq_self, true_and, and_true, and_self, not_true_eq_false, not_false_eq_true, false_implies, true_implies, implies_true, Classical.not_not, forall_const, true_or, or_true, false_or, or_false, false_and, and_false, if_true, if_false, ite_true, ite_false, reduceIte, reduceCtorEq]
      exact B_263_24 M.1 ⟨_, rfl, k h Gx.rf⟩
  · rw [opN_0 e] at k
    try simp (disch := omega) only [lit, tn_nI, z_inb, nI_add, pk_mul, z_le, z_nle, z_lt, z_nlt, z_ne, z_m1, pk_sub, xI_ss, xI_sd, xI_n, eq_self, true_and, and_true, and_self, not_true_eq_false, not_false_eq_true, false_implies, true_implies, implies_true, Classical.not_not, forall_const, true_or, or_true, false_or, or_false, false_and, and_false, if_true, if_false, ite_true, ite_false, reduceIte, reduceCtorEq]
    exact B_263_24 M.1 ⟨_, rfl, k h Gx.rf⟩
end RN

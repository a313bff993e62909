/-! TWINS: the reference -/
abbrev SU : List Nat := [106, 107, 109, 110, 111, 112, 115]
section RT
variable {T : Nat → Nat → Int32} {l : Nat} {h0 h : XH} {Q : Value → XH → Prop} {n : Nat}
theorem l_fillB (M : RM T l h0) (hn : n ≤ 30) (kk : ∀ h1, Gx SU [58, 61] h0 h1 → (∀ w, w < wN T → xI h1 115 w = nI (bsh T w n)) → Q .null h1) : ∀ (j w : Nat) (h : XH), w + j = wN T → Gx SU [58, 61] h0 h → (∀ v, v < w → xI h 115 v = nI (bsh T v n)) → Ev 252 2 [.ref 69, .int (nI n), .int (nI w)] [] h Q := by
  have W2 := M.wn.2
  have l2 := M.l2
  intro j
  induction j with
  | zero =>
    intro w h hj g hq
    have M' := M.gx g (by decide) (by decide)
    have e18 := M'.2.1
    have e6 := M'.wn.1
    refine B_252_2 M'.1 ?_
    try simp (disch := omega) only [lit, tn_nI, z_inb, nI_add, pk_mul, z_le, z_nle, z_lt, z_nlt, z_ne, z_m1, pk_sub, xI_ss, xI_sd, xI_n, eq_self, true_and, and_true, and_self, not_true_eq_false, not_false_eq_true, false_implies, true_implies, implies_true, Classical.not_not, forall_const, true_or, or_true, false_or, or_false, false_and, and_false, if_true, if_false, ite_true, ite_false, reduceIte, reduceCtorEq, e18, e6]
    exact kk h g (fun v hv => hq v (by omega))
  | succ j ih =>
    intro w h hj g hq
    have M' := M.gx g (by decide) (by decide)
    have e18 := M'.2.1
    have e6 := M'.wn.1
    refine B_252_2 M'.1 ?_
    try simp (disch := omega) only [lit, tn_nI, z_inb, nI_add, pk_mul, z_le, z_nle, z_lt, z_nlt, z_ne, z_m1, pk_sub, xI_ss, xI_sd, xI_n, eq_self, true_and, and_true, and_self, not_true_eq_false, not_false_eq_true, false_implies, true_implies, implies_true, Classical.not_not, forall_const, true_or, or_true, false_or, or_false, false_and, and_false, if_true, if_false, ite_true, ite_false, reduceIte, reduceCtorEq, e18, e6]
    refine c_begW M' (by omega) (fun h1 g1 hr1 e61 => ⟨g1.sh M'.1 (by decide), ?_⟩)
    have M1 := M'.gx g1 (by decide) (by decide)
    refine c_goes (by omega) M1 e61 hr1 (bR_ok M.2.2.2 w).1 (fun h2 g2 hr2 => ⟨g2.sh M1.1 (by decide), ?_⟩)
    have M2 := M1.gx g2 (by decide) (by decide)
    refine c_shNow6 M2 hr2 (bD_ok M.2.2.2 w n).1.1 ⟨M2.1, ?_⟩
    try simp (disch := omega) only [lit, tn_nI, z_inb, nI_add, pk_mul, z_le, z_nle, z_lt, z_nlt, z_ne, z_m1, pk_sub, xI_ss, xI_sd, xI_n, eq_self, true_and, and_true, and_self, not_true_eq_false, not_false_eq_true, false_implies, true_implies, implies_true, Classical.not_not, forall_const, true_or, or_true, false_or, or_false, false_and, and_false, if_true, if_false, ite_true, ite_false, reduceIte, reduceCtorEq]
    have gA : Gx SU [58, 61] h0 h2 := (g.trm (S := SU) (F := [58, 61]) g1 (by decide) (by decide) (by decide) (by decide)).trm g2 (by decide) (by decide) (by decide) (by decide)
    refine ih (w + 1) _ (by omega) (gA.set (by decide) (by decide)) (fun v hv => ?_)
    by_cases e : v = w
    · subst e; rw [xI_ss]; rfl
    · rw [xI_sd e, g2.at (by decide) (by decide), g1.at (by decide) (by decide)]; exact hq v (by omega)
theorem c_fillB {K : XH → Prop} (M : RM T l h) (hn : n ≤ 30) (k : ∀ h1, Gx SU [58, 61] h h1 → RM T l h1 → (∀ w, w < wN T → xI h1 115 w = nI (bsh T w n)) → K h1) : ClV 252 [.ref 69, .int (nI n)] h K :=
  B_252_0 M.1 (l_fillB M hn (fun h1 g e => ⟨rfl, k h1 g (M.gx g (by decide) (by decide)) e⟩) (wN T) 0 h (by omega) Gx.rf (fun v hv => absurd hv (by omega)))
theorem l_clears (hs0 : Sh h0) (kk : ∀ h1, Gx [117] [] h0 h1 → (∀ s, s < 15625 → xI h1 117 s = -1) → Q .null h1) : ∀ (j i : Nat) (h : XH), i + j = 15625 → Gx [117] [] h0 h → (∀ v, v < i → xI h 117 v = -1) → Ev 253 2 [.ref 69, .int (nI i)] [] h Q := by
  intro j
  induction j with
  | zero =>
    intro i h hj g hq
    refine B_253_2 (g.sh hs0 (by decide)) ?_
    try simp (disch := omega) only [lit, tn_nI, z_inb, nI_add, pk_mul, z_le, z_nle, z_lt, z_nlt, z_ne, z_m1, pk_sub, xI_ss, xI_sd, xI_n, eq_self, true_and, and_true, and_self, not_true_eq_false, not_false_eq_true, false_implies, true_implies, implies_true, Classical.not_not, forall_const, true_or, or_true, false_or, or_false, false_and, and_false, if_true, if_false, ite_true, ite_false, reduceIte, reduceCtorEq]
    exact kk h g (fun v hv => hq v (by omega))
  | succ j ih =>
    intro i h hj g hq
    refine B_253_2 (g.sh hs0 (by decide)) ?_
    try simp (disch := omega) only [lit, tn_nI, z_inb, nI_add, pk_mul, z_le, z_nle, z_lt, z_nlt, z_ne, z_m1, pk_sub, xI_ss, xI_sd, xI_n, eq_self, true_and, and_true, and_self, not_true_eq_false, not_false_eq_true, false_implies, true_implies, implies_true, Classical.not_not, forall_const, true_or, or_true, false_or, or_false, false_and, and_false, if_true, if_false, ite_true, ite_false, reduceIte, reduceCtorEq]
    refine ih (i + 1) _ (by omega) (g.set (by decide) (by decide)) (fun v hv => ?_)
    by_cases e : v = i
    · subst e; exact xI_ss
    · rw [xI_sd e]; exact hq v (by omega)
theorem c_clears {K : XH → Prop} (hs : Sh h) (k : ∀ h1, Gx [117] [] h h1 → (∀ s, s < 15625 → xI h1 117 s = -1) → K h1) : ClV 253 [.ref 69] h K :=
  B_253_0 hs (l_clears hs (fun h1 g e => ⟨rfl, k h1 g e⟩) 15625 0 h (by decide) Gx.rf (fun v hv => absurd hv (by omega)))
theorem l_rtw {j0 : Nat} (M : RM T l h0) (hj0 : j0 < 2) (h15 : ∀ w, w < wN T → xI h0 115 w = nI (bsh T w n)) (kk : ∀ h1, Gx [117] [] h0 h1 → Q (.int (twn (fun v => bsh T v n) j0 (wN T) 0)) h1) : ∀ (k w : Nat) (h : XH), w + k = wN T → Gx [117] [] h0 h → (∀ s, s < 15625 → xI h 117 s = foI (fun v => bsh T v n) s w) → twn (fun v => bsh T v n) j0 (wN T) 0 = twn (fun v => bsh T v n) j0 k w → Ev 250 29 [.ref 69, .null, .int (nI j0), .int (nI w), .null] [] h Q := by
  have W2 := M.wn.2
  have l2 := M.l2
  have t := M.2.2.2
  intro k
  induction k with
  | zero =>
    intro w h hk g hq e
    have M' := M.gx g (by decide) (by decide)
    have e18 := M'.2.1
    have e6 := M'.wn.1
    refine B_250_29 M'.1 ?_
    try simp (disch := omega) only [lit, tn_nI, z_inb, nI_add, pk_mul, z_le, z_nle, z_lt, z_nlt, z_ne, z_m1, pk_sub, xI_ss, xI_sd, xI_n, eq_self, true_and, and_true, and_self, not_true_eq_false, not_false_eq_true, false_implies, true_implies, implies_true, Classical.not_not, forall_const, true_or, or_true, false_or, or_false, false_and, and_false, if_true, if_false, ite_true, ite_false, reduceIte, reduceCtorEq, e18, e6]
    have k1 := kk h g
    rw [e] at k1
    exact k1
  | succ k ih =>
    intro w h hk g hq e
    have M' := M.gx g (by decide) (by decide)
    have e18 := M'.2.1
    have e6 := M'.wn.1
    have hlt := bsh_lt t w n
    have ev : xI h 115 w = nI (bsh T w n) := by rw [g.at (by decide) (by decide)]; exact h15 w (by omega)
    have em := hq (bsh T w n) hlt
    refine B_250_29 M'.1 ?_
    rw [e18, tn_nI (show l < 2 ^ 31 by omega), e6, tn_nI (show w < 2 ^ 31 by omega), ev, tn_nI (show bsh T w n < 2 ^ 31 by omega), em, nI_1]
    have hib2 : InB (nI (bsh T w n)) 15625 := inb (by omega) (by decide)
    have hibw : InB (nI w) 2000 := inb (by omega) (by decide)
    refine ⟨inb (by omega) (by decide), fun z => absurd z (nI_ge (by omega) (by omega)), fun _ => ⟨hibw, hib2, ?_⟩⟩
    have e' : twn (fun v => bsh T v n) j0 (wN T) 0 = match fo (fun v => bsh T v n) (bsh T w n) w with
      | some v => if j0 = 0 then nI v else nI w
      | none => twn (fun v => bsh T v n) j0 k (w + 1) := e
    cases hf : fo (fun v => bsh T v n) (bsh T w n) w with
    | none =>
      rw [hf] at e'
      have efo : foI (fun v => bsh T v n) (bsh T w n) w = -1 := by unfold foI; rw [hf]
      rw [efo]
      refine ⟨fun _ => ⟨hibw, hib2, ?_⟩, fun z => absurd (by decide) z⟩
      refine ih (w + 1) _ (by omega) (g.set (by decide) (by decide)) (fun s hs' => ?_) e'
      rw [foI_s (f := fun v => bsh T v n) hf]
      by_cases y : s = bsh T w n
      · subst y; rw [xI_ss, if_pos rfl]
      · rw [xI_sd y, if_neg y]; exact hq s hs'
    | some v =>
      rw [hf] at e'
      have hv := fo_lt _ _ hf
      have efo : foI (fun v => bsh T v n) (bsh T w n) w = nI v := by unfold foI; rw [hf]
      have k1 := kk h g
      rw [e'] at k1
      have k1 : Q (.int (if j0 = 0 then nI v else nI w)) h := k1
      rw [efo]
      refine ⟨fun z => absurd z (nI_pos (by omega)), fun _ => ⟨fun z => ?_, fun z => ?_⟩⟩
      · rw [if_neg (fun y => z (by rw [y]; rfl))] at k1
        exact k1
      · rw [if_pos ((nI_eq (b := 0) (by omega) (by decide)).mp (Classical.not_not.mp z))] at k1
        exact k1
abbrev ST2 : List Nat := [106, 107, 109, 110, 111, 112, 115, 117]
theorem c_rTwins {x y : Int32} {K : Int32 → XH → Prop} (M : RM T l h) (k : ∀ h1, Gx ST2 [58, 61] h h1 → K (oTwins T x y) h1) : ClI 250 [.ref 69, .int x, .int y] h K := by
  unfold oTwins at k
  refine B_250_0 M.1 (c_isMonth M.1 (fun n hn e => ⟨M.1, ?_⟩) (fun e => ⟨M.1, ?_⟩))
  · subst e
    rw [opN_1 hn (by omega)] at k
    try simp (disch := omega) only [lit, tn_nI, z_inb, nI_add, pk_mul, z_le, z_nle, z_lt, z_nlt, z_ne, z_m1, pk_sub, xI_ss, xI_sd, xI_n, eq_self, true_and, and_true, and_self, not_true_eq_false, not_false_eq_true, false_implies, true_implies, implies_true, Classical.not_not, forall_const, true_or, or_true, false_or, or_false, false_and, and_false, if_true, if_false, ite_true, ite_false, reduceIte, reduceCtorEq]
    refine c_inM (m := 1) M.1 (by decide) (fun j0 hj0 e => ⟨M.1, ?_⟩) (fun e => ⟨M.1, ?_⟩)
    · subst e
      rw [opN_1 hj0 (by omega)] at k
      try simp (disch := omega) only [lit, tn_nI, z_inb, nI_add, pk_mul, z_le, z_nle, z_lt, z_nlt, z_ne, z_m1, pk_sub, xI_ss, xI_sd, xI_n, eq_self, true_and, and_true, and_self, not_true_eq_false, not_false_eq_true, false_implies, true_implies, implies_true, Classical.not_not, forall_const, true_or, or_true, false_or, or_false, false_and, and_false, if_true, if_false, ite_true, ite_false, reduceIte, reduceCtorEq]
      refine c_fillB M (by omega) (fun h1 g1 M1 e1 => ⟨M1.1, c_clears M1.1 (fun h2 g2 e2 => ?_)⟩)
      have M2 := M1.gx g2 (by decide) (by decide)
      refine ⟨M2.1, ?_⟩
      exact l_rtw M2 hj0 (fun w hw => by rw [g2.at (by decide) (by decide)]; exact e1 w hw) (fun h3 g3 => ⟨_, rfl, k h3 ((g1.trm (S := ST2) (F := [58, 61]) g2 (by decide) (by decide) (by decide) (by decide)).trm g3 (by decide) (by decide) (by decide) (by decide))⟩) (wN T) 0 h2 (by omega) Gx.rf (fun s hs => e2 s hs) rfl
    · rw [opN_0 e] at k
      try simp (disch := omega) only [lit, tn_nI, z_inb, nI_add, pk_mul, z_le, z_nle, z_lt, z_nlt, z_ne, z_m1, pk_sub, xI_ss, xI_sd, xI_n, eq_self, true_and, and_true, and_self, not_true_eq_false, not_false_eq_true, false_implies, true_implies, implies_true, Classical.not_not, forall_const, true_or, or_true, false_or, or_false, false_and, and_false, if_true, if_false, ite_true, ite_false, reduceIte, reduceCtorEq]
      exact ⟨_, rfl, k h Gx.rf⟩
  · rw [opN_0 e] at k
    try simp (disch := omega) only [lit, tn_nI, z_inb, nI_add, pk_mul, z_le, z_nle, z_lt, z_nlt, z_ne, z_m1, pk_sub, xI_ss, xI_sd, xI_n, eq_self, true_and, and_true, and_self, not_true_eq_false, not_false_eq_true, false_implies, true_implies, implies_true, Classical.not_not, forall_const, true_or, or_true, false_or, or_false, false_and, and_false, if_true, if_false, ite_true, ite_false, reduceIte, reduceCtorEq]
    exact ⟨_, rfl, k h Gx.rf⟩
end RT

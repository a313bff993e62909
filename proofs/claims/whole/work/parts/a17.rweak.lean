/-! WEAKEST: the reference -/
abbrev SY : List Nat := [106, 107, 109, 110, 111, 116]
section RK2
variable {T : Nat → Nat → Int32} {l : Nat} {r : Nat → Int32} {h0 h : XH} {Q : Value → XH → Prop} {p : Nat}
theorem l_rwk {n j : Nat} (hs : Sh h) (hn : n ≤ 6) (W2 : wN T ≤ 2000) (h16 : ∀ c, c < n → xI h 116 c = nI (nt T r p c (wN T))) (hj : j < 2) (kk : Q (.int (if j = 0 then nI (wk T r p (n - 1) 1 0) else nI (nt T r p (wk T r p (n - 1) 1 0) (wN T)))) h) : ∀ k c b, c + k = n → b < n → wk T r p (n - 1) 1 0 = wk T r p k c b → Ev 244 152 [.ref 69, .null, .int (nI j), .null, .int (nI n), .int (nI b), .int (nI c)] [] h Q := by
  intro k
  induction k with
  | zero =>
    intro c b hk hb e
    have eb := h16 b hb
    have e : wk T r p (n - 1) 1 0 = b := e
    rw [e] at kk
    refine B_244_152 hs ?_
    rcases (show j = 0 ∨ j = 1 by omega) with z | z
    · subst z; try simp (disch := omega) only [lit, tn_nI, z_inb, nI_add, pk_mul, z_le, z_nle, z_lt, z_nlt, z_ne, z_m1, pk_sub, xI_ss, xI_sd, xI_n, eq_self, true_and, and_true, and_self, not_true_eq_false, not_false_eq_true, false_implies, true_implies, implies_true, Classical.not_not, forall_const, true_or, or_true, false_or, or_false, false_and, and_false, if_true, if_false, ite_true, ite_false, reduceIte, reduceCtorEq]; exact kk
    · subst z; try simp (disch := omega) only [lit, tn_nI, z_inb, nI_add, pk_mul, z_le, z_nle, z_lt, z_nlt, z_ne, z_m1, pk_sub, xI_ss, xI_sd, xI_n, eq_self, true_and, and_true, and_self, not_true_eq_false, not_false_eq_true, false_implies, true_implies, implies_true, Classical.not_not, forall_const, true_or, or_true, false_or, or_false, false_and, and_false, if_true, if_false, ite_true, ite_false, reduceIte, reduceCtorEq, eb]; exact kk
  | succ k ih =>
    intro c b hk hb e
    have ec := h16 c (by omega)
    have eb := h16 b hb
    have n1 := nt_le (T := T) (r := r) (p := p) (c := c) (n := wN T)
    have n2 := nt_le (T := T) (r := r) (p := p) (c := b) (n := wN T)
    have e : wk T r p (n - 1) 1 0 = wk T r p k (c + 1) (if nt T r p b (wN T) < nt T r p c (wN T) then c else b) := e
    refine B_244_152 hs ?_
    try simp (disch := omega) only [lit, tn_nI, z_inb, nI_add, pk_mul, z_le, z_nle, z_lt, z_nlt, z_ne, z_m1, pk_sub, xI_ss, xI_sd, xI_n, eq_self, true_and, and_true, and_self, not_true_eq_false, not_false_eq_true, false_implies, true_implies, implies_true, Classical.not_not, forall_const, true_or, or_true, false_or, or_false, false_and, and_false, if_true, if_false, ite_true, ite_false, reduceIte, reduceCtorEq, ec, eb]
    by_cases q : nt T r p b (wN T) < nt T r p c (wN T)
    · rw [if_pos q] at e
      try simp (disch := omega) only [lit, tn_nI, z_inb, nI_add, pk_mul, z_le, z_nle, z_lt, z_nlt, z_ne, z_m1, pk_sub, xI_ss, xI_sd, xI_n, eq_self, true_and, and_true, and_self, not_true_eq_false, not_false_eq_true, false_implies, true_implies, implies_true, Classical.not_not, forall_const, true_or, or_true, false_or, or_false, false_and, and_false, if_true, if_false, ite_true, ite_false, reduceIte, reduceCtorEq]
      refine B_244_180 hs ?_
      try simp (disch := omega) only [lit, tn_nI, z_inb, nI_add, pk_mul, z_le, z_nle, z_lt, z_nlt, z_ne, z_m1, pk_sub, xI_ss, xI_sd, xI_n, eq_self, true_and, and_true, and_self, not_true_eq_false, not_false_eq_true, false_implies, true_implies, implies_true, Classical.not_not, forall_const, true_or, or_true, false_or, or_false, false_and, and_false, if_true, if_false, ite_true, ite_false, reduceIte, reduceCtorEq]
      exact ih (c + 1) c (by omega) (by omega) e
    · rw [if_neg q] at e
      try simp (disch := omega) only [lit, tn_nI, z_inb, nI_add, pk_mul, z_le, z_nle, z_lt, z_nlt, z_ne, z_m1, pk_sub, xI_ss, xI_sd, xI_n, eq_self, true_and, and_true, and_self, not_true_eq_false, not_false_eq_true, false_implies, true_implies, implies_true, Classical.not_not, forall_const, true_or, or_true, false_or, or_false, false_and, and_false, if_true, if_false, ite_true, ite_false, reduceIte, reduceCtorEq]
      refine B_244_180 hs ?_
      try simp (disch := omega) only [lit, tn_nI, z_inb, nI_add, pk_mul, z_le, z_nle, z_lt, z_nlt, z_ne, z_m1, pk_sub, xI_ss, xI_sd, xI_n, eq_self, true_and, and_true, and_self, not_true_eq_false, not_false_eq_true, false_implies, true_implies, implies_true, Classical.not_not, forall_const, true_or, or_true, false_or, or_false, false_and, and_false, if_true, if_false, ite_true, ite_false, reduceIte, reduceCtorEq]
      exact ih (c + 1) b (by omega) hb e
theorem l_rw1 {n j w x : Nat} (M : RM T l h0) (hp : p < 6) (hn : n ≤ 6) (hw : w < wN T) (e86 : rt h0 86 (6 * l + p) = nI x) (hxn : x + n ≤ 72) (hc : ∀ c, c < n → clT T (rt h0) p c (x + c)) (kk : ∀ h1, Gx [106, 107, 116] [58] h0 h1 → (∀ c, c < n → xI h1 116 c = nI (nt T r p c (w + 1))) → Ev 244 71 [.ref 69, .int (nI p), .int (nI j), .int (nI (6 * l + p)), .int (nI n), .int (nI (w + 1)), .null] [] h1 Q) :
    ∀ (k c : Nat) (h : XH), c + k = n → Gx [106, 107, 116] [58] h0 h → vOk (xI h 106) (setS T (wRow T w r)) → (∀ d, d < c → xI h 116 d = nI (nt T r p d (w + 1))) → (∀ d, c ≤ d → d < n → xI h 116 d = nI (nt T r p d w)) → Ev 244 98 [.ref 69, .int (nI p), .int (nI j), .int (nI (6 * l + p)), .int (nI n), .int (nI w), .int (nI c)] [] h Q := by
  have W2 := M.wn.2
  have l2 := M.l2
  intro k
  induction k with
  | zero =>
    intro c h hk g hv h1 h2
    refine B_244_98 (g.sh M.1 (by decide)) ?_
    try simp (disch := omega) only [lit, tn_nI, z_inb, nI_add, pk_mul, z_le, z_nle, z_lt, z_nlt, z_ne, z_m1, pk_sub, xI_ss, xI_sd, xI_n, eq_self, true_and, and_true, and_self, not_true_eq_false, not_false_eq_true, false_implies, true_implies, implies_true, Classical.not_not, forall_const, true_or, or_true, false_or, or_false, false_and, and_false, if_true, if_false, ite_true, ite_false, reduceIte, reduceCtorEq]
    exact kk h g (fun d hd => h1 d (by omega))
  | succ k ih =>
    intro c h hk g hv h1 h2
    have hs := g.sh M.1 (by decide)
    have e16 := h2 c (Nat.le_refl _) (by omega)
    have hnt := nt_le (T := T) (r := r) (p := p) (c := c) (n := w)
    have i86 : xI h 86 (6 * l + p) = nI x := by rw [g.at (by decide) (by decide)]; exact e86
    have es := nt_s (T := T) (r := r) (p := p) (c := c) (n := w)
    refine B_244_98 hs ?_
    try simp (disch := omega) only [lit, tn_nI, z_inb, nI_add, pk_mul, z_le, z_nle, z_lt, z_nlt, z_ne, z_m1, pk_sub, xI_ss, xI_sd, xI_n, eq_self, true_and, and_true, and_self, not_true_eq_false, not_false_eq_true, false_implies, true_implies, implies_true, Classical.not_not, forall_const, true_or, or_true, false_or, or_false, false_and, and_false, if_true, if_false, ite_true, ite_false, reduceIte, reduceCtorEq, i86]
    refine c_claimIs (T := T) (c := c) hs (by rw [rt_gx g (by decide)]; exact hc c (by omega)) hp (by omega) hv (fun h3 g3 hv3 => ?_)
    have hs3 := g3.sh hs (by decide)
    have g4 : Gx [106, 107, 116] [58] h0 h3 := g.trm g3 (by decide) (by decide) (by decide) (by decide)
    have e16' : xI h3 116 = xI h 116 := g3.at (by decide) (by decide)
    refine ⟨hs3, ?_⟩
    by_cases q : hl T (setS T (wRow T w r)) p c = true
    · rw [if_pos q] at es
      rw [ck_hl.mpr q]
      try simp (disch := omega) only [lit, tn_nI, z_inb, nI_add, pk_mul, z_le, z_nle, z_lt, z_nlt, z_ne, z_m1, pk_sub, xI_ss, xI_sd, xI_n, eq_self, true_and, and_true, and_self, not_true_eq_false, not_false_eq_true, false_implies, true_implies, implies_true, Classical.not_not, forall_const, true_or, or_true, false_or, or_false, false_and, and_false, if_true, if_false, ite_true, ite_false, reduceIte, reduceCtorEq]
      refine B_244_134 hs3 ?_
      try simp (disch := omega) only [lit, tn_nI, z_inb, nI_add, pk_mul, z_le, z_nle, z_lt, z_nlt, z_ne, z_m1, pk_sub, xI_ss, xI_sd, xI_n, eq_self, true_and, and_true, and_self, not_true_eq_false, not_false_eq_true, false_implies, true_implies, implies_true, Classical.not_not, forall_const, true_or, or_true, false_or, or_false, false_and, and_false, if_true, if_false, ite_true, ite_false, reduceIte, reduceCtorEq]
      refine ih (c + 1) h3 (by omega) g4 hv3 (fun d hd => ?_) (fun d hd hn => by rw [e16']; exact h2 d (by omega) hn)
      rw [e16']
      by_cases z : d = c
      · subst z; rw [es]; exact e16
      · exact h1 d (by omega)
    · rw [if_neg q] at es
      have hne : ¬ ck T (setS T (wRow T w r)) p c = nI 1 := fun z => q (ck_hl.mp z)
      rw [← e16'] at e16
      try simp (disch := omega) only [lit, tn_nI, z_inb, nI_add, pk_mul, z_le, z_nle, z_lt, z_nlt, z_ne, z_m1, pk_sub, xI_ss, xI_sd, xI_n, eq_self, true_and, and_true, and_self, not_true_eq_false, not_false_eq_true, false_implies, true_implies, implies_true, Classical.not_not, forall_const, true_or, or_true, false_or, or_false, false_and, and_false, if_true, if_false, ite_true, ite_false, reduceIte, reduceCtorEq, hne, e16]
      have g5 : Gx [106, 107, 116] [58] h0 (xsI h3 116 c (nI (nt T r p c w + 1))) := g4.set (by decide) (by decide)
      refine B_244_134 (g5.sh M.1 (by decide)) ?_
      try simp (disch := omega) only [lit, tn_nI, z_inb, nI_add, pk_mul, z_le, z_nle, z_lt, z_nlt, z_ne, z_m1, pk_sub, xI_ss, xI_sd, xI_n, eq_self, true_and, and_true, and_self, not_true_eq_false, not_false_eq_true, false_implies, true_implies, implies_true, Classical.not_not, forall_const, true_or, or_true, false_or, or_false, false_and, and_false, if_true, if_false, ite_true, ite_false, reduceIte, reduceCtorEq]
      refine ih (c + 1) _ (by omega) g5 (by rw [xI_n (by decide)]; exact hv3) (fun d hd => ?_) (fun d hd hn => by rw [xI_sd (by omega), e16']; exact h2 d (by omega) hn)
      by_cases z : d = c
      · subst z; rw [es]; exact xI_ss
      · rw [xI_sd z, e16']; exact h1 d (by omega)
theorem l_rw2 {n j : Nat} (M : RM T l h0) (hr0 : rq (xI h0 108) r) (hro : rOk T r) (hp : p < tn (T 0 1)) (hnT : T 6 p = nI n) (hn : 1 ≤ n ∧ n ≤ 6) (hj : j < 2) (kk : ∀ h1, Gx SY [58, 61] h0 h1 → Q (.int (if j = 0 then nI (wk T r p (n - 1) 1 0) else nI (nt T r p (wk T r p (n - 1) 1 0) (wN T)))) h1) :
    ∀ (k w : Nat) (h : XH), w + k = wN T → Gx SY [58, 61] h0 h → (∀ c, c < n → xI h 116 c = nI (nt T r p c w)) → Ev 244 71 [.ref 69, .int (nI p), .int (nI j), .int (nI (6 * l + p)), .int (nI n), .int (nI w), .null] [] h Q := by
  have W2 := M.wn.2
  have l2 := M.l2
  have p6 := M.p6
  intro k
  induction k with
  | zero =>
    intro w h hk g h16
    have M' := M.gx g (by decide) (by decide)
    have e6 := M'.wn.1
    have e18 := M'.2.1
    have hw : w = wN T := by omega
    subst hw
    refine B_244_71 M'.1 ?_
    try simp (disch := omega) only [lit, tn_nI, z_inb, nI_add, pk_mul, z_le, z_nle, z_lt, z_nlt, z_ne, z_m1, pk_sub, xI_ss, xI_sd, xI_n, eq_self, true_and, and_true, and_self, not_true_eq_false, not_false_eq_true, false_implies, true_implies, implies_true, Classical.not_not, forall_const, true_or, or_true, false_or, or_false, false_and, and_false, if_true, if_false, ite_true, ite_false, reduceIte, reduceCtorEq, e18, e6]
    exact l_rwk M'.1 hn.2 W2 h16 hj (kk h g) (n - 1) 1 0 (by omega) (by omega) rfl
  | succ k ih =>
    intro w h hk g h16
    have M' := M.gx g (by decide) (by decide)
    have e6 := M'.wn.1
    have e18 := M'.2.1
    have hr : rq (xI h 108) r := by rw [g.at (by decide) (by decide)]; exact hr0
    refine B_244_71 M'.1 ?_
    try simp (disch := omega) only [lit, tn_nI, z_inb, nI_add, pk_mul, z_le, z_nle, z_lt, z_nlt, z_ne, z_m1, pk_sub, xI_ss, xI_sd, xI_n, eq_self, true_and, and_true, and_self, not_true_eq_false, not_false_eq_true, false_implies, true_implies, implies_true, Classical.not_not, forall_const, true_or, or_true, false_or, or_false, false_and, and_false, if_true, if_false, ite_true, ite_false, reduceIte, reduceCtorEq, e18, e6]
    refine c_tries M' (by omega) hr hro (fun h1 g1 hr1 => ?_)
    have M1 := M'.gx g1 (by decide) (by decide)
    refine ⟨M1.1, c_setV M1.1 hr1 (fun h2 g2 hv2 => ?_)⟩
    have M2 := M1.gx g2 (by decide) (by decide)
    have gB : Gx SY [58, 61] h0 h2 := (g.trm g1 (by decide) (by decide) (by decide) (by decide)).trm (S1 := SY) (F1 := [58, 61]) g2 (by decide) (by decide) (by decide) (by decide)
    have h16' : xI h2 116 = xI h 116 := (g2.at (by decide) (by decide)).trans (g1.at (by decide) (by decide))
    obtain ⟨e5, x, n', e86, e87, hxn, q1, q6, eT, hc⟩ := M2.2.2.1.2.2.2 p hp
    have hnn : n' = n := (nI_eq (by omega) (by omega)).mp (eT.symm.trans hnT)
    subst hnn
    refine ⟨M2.1, ?_⟩
    refine l_rw1 (x := x) M2 (by omega) hn.2 (by omega) e86 hxn hc (fun h3 g3 q3 => ?_) n' 0 h2 (by omega) Gx.rf hv2 (fun d hd => absurd hd (by omega)) (fun d _ hd => by rw [h16']; exact h16 d hd)
    exact ih (w + 1) h3 (by omega) (gB.trm g3 (by decide) (by decide) (by decide) (by decide)) q3
theorem l_rw0 {n j : Nat} (M : RM T l h0) (hl2 : l < 2) (hp : p < 6) (kk : ∀ h1, Gx [116] [] h0 h1 → (∀ c, c < 6 → xI h1 116 c = nI 0) → Ev 244 71 [.ref 69, .int (nI p), .int (nI j), .int (nI (6 * l + p)), .int (nI n), .int (nI 0), .null] [] h1 Q) :
    ∀ (m i : Nat) (h : XH), i + m = 6 → Gx [116] [] h0 h → (∀ c, c < i → xI h 116 c = nI 0) → Ev 244 47 [.ref 69, .int (nI p), .int (nI j), .int (nI (6 * l + p)), .int (nI n), .int (nI i), .null] [] h Q := by
  intro m
  induction m with
  | zero =>
    intro i h hm g hq
    refine B_244_47 (g.sh M.1 (by decide)) ?_
    try simp (disch := omega) only [lit, tn_nI, z_inb, nI_add, pk_mul, z_le, z_nle, z_lt, z_nlt, z_ne, z_m1, pk_sub, xI_ss, xI_sd, xI_n, eq_self, true_and, and_true, and_self, not_true_eq_false, not_false_eq_true, false_implies, true_implies, implies_true, Classical.not_not, forall_const, true_or, or_true, false_or, or_false, false_and, and_false, if_true, if_false, ite_true, ite_false, reduceIte, reduceCtorEq]
    exact kk h g (fun c hc => hq c (by omega))
  | succ m ih =>
    intro i h hm g hq
    refine B_244_47 (g.sh M.1 (by decide)) ?_
    try simp (disch := omega) only [lit, tn_nI, z_inb, nI_add, pk_mul, z_le, z_nle, z_lt, z_nlt, z_ne, z_m1, pk_sub, xI_ss, xI_sd, xI_n, eq_self, true_and, and_true, and_self, not_true_eq_false, not_false_eq_true, false_implies, true_implies, implies_true, Classical.not_not, forall_const, true_or, or_true, false_or, or_false, false_and, and_false, if_true, if_false, ite_true, ite_false, reduceIte, reduceCtorEq]
    refine ih (i + 1) _ (by omega) (g.set (by decide) (by decide)) (fun c hc => ?_)
    by_cases e : c = i
    · subst e; exact xI_ss
    · rw [xI_sd e]; exact hq c (by omega)
theorem c_rWeak {x y : Int32} {K : Int32 → XH → Prop} (M : RM T l h) (hr : rq (xI h 108) r) (hro : rOk T r) (k : ∀ h1, Gx SY [58, 61] h h1 → K (opN x (tn (T 0 1)) (-1) (fun p => opN y 2 (-1) (fun w => aWeak T r p w))) h1) : ClI 244 [.ref 69, .int x, .int y] h K := by
  have p6 := M.p6
  have l2 := M.l2
  refine B_244_0 M.1 (c_rPage M (fun p hp e => ⟨M.1, ?_⟩) (fun q => ⟨M.1, ?_⟩))
  · subst e
    rw [opN_1 hp (by omega)] at k
    try simp (disch := omega) only [lit, tn_nI, z_inb, nI_add, pk_mul, z_le, z_nle, z_lt, z_nlt, z_ne, z_m1, pk_sub, xI_ss, xI_sd, xI_n, eq_self, true_and, and_true, and_self, not_true_eq_false, not_false_eq_true, false_implies, true_implies, implies_true, Classical.not_not, forall_const, true_or, or_true, false_or, or_false, false_and, and_false, if_true, if_false, ite_true, ite_false, reduceIte, reduceCtorEq]
    refine c_inM (m := 1) M.1 (by decide) (fun j hj e => ⟨M.1, ?_⟩) (fun q => ⟨M.1, ?_⟩)
    · subst e
      rw [opN_1 hj (by omega)] at k
      obtain ⟨e5, x, n, e86, e87, hxn, q1, q6, eT, hc⟩ := M.2.2.1.2.2.2 p hp
      unfold aWeak at k
      rw [eT, tn_nI (by omega)] at k
      have e18 := M.2.1
      have i86 : xI h 86 (6 * l + p) = nI x := e86
      have i87 : xI h 87 (6 * l + p) = nI (x + n) := e87
      try simp (disch := omega) only [lit, tn_nI, z_inb, nI_add, pk_mul, z_le, z_nle, z_lt, z_nlt, z_ne, z_m1, pk_sub, xI_ss, xI_sd, xI_n, eq_self, true_and, and_true, and_self, not_true_eq_false, not_false_eq_true, false_implies, true_implies, implies_true, Classical.not_not, forall_const, true_or, or_true, false_or, or_false, false_and, and_false, if_true, if_false, ite_true, ite_false, reduceIte, reduceCtorEq, e18, i86, i87]
      rw [show x + n - x = n by omega]
      refine l_rw0 M l2 (by omega) (fun h1 g1 e1 => ?_) 6 0 h (by decide) Gx.rf (fun c hc => absurd hc (by omega))
      have M1 := M.gx g1 (by decide) (by decide)
      exact l_rw2 M1 (by rw [g1.at (by decide) (by decide)]; exact hr) hro hp eT ⟨q1, q6⟩ hj (fun h2 g2 => ⟨_, rfl, k h2 (g1.trm g2 (by decide) (by decide) (by decide) (by decide))⟩) (wN T) 0 h1 (by omega) Gx.rf (fun c hc => e1 c (by omega))
    · rw [opN_0 q] at k
      try simp (disch := omega) only [lit, tn_nI, z_inb, nI_add, pk_mul, z_le, z_nle, z_lt, z_nlt, z_ne, z_m1, pk_sub, xI_ss, xI_sd, xI_n, eq_self, true_and, and_true, and_self, not_true_eq_false, not_false_eq_true, false_implies, true_implies, implies_true, Classical.not_not, forall_const, true_or, or_true, false_or, or_false, false_and, and_false, if_true, if_false, ite_true, ite_false, reduceIte, reduceCtorEq]
      exact B_244_17 M.1 ⟨_, rfl, k h Gx.rf⟩
  · rw [opN_0 q] at k
    try simp (disch := omega) only [lit, tn_nI, z_inb, nI_add, pk_mul, z_le, z_nle, z_lt, z_nlt, z_ne, z_m1, pk_sub, xI_ss, xI_sd, xI_n, eq_self, true_and, and_true, and_self, not_true_eq_false, not_false_eq_true, false_implies, true_implies, implies_true, Classical.not_not, forall_const, true_or, or_true, false_or, or_false, false_and, and_false, if_true, if_false, ite_true, ite_false, reduceIte, reduceCtorEq]
    exact B_244_17 M.1 ⟨_, rfl, k h Gx.rf⟩
end RK2

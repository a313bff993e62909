/-! WEAKEST: spec, class, reference -/
def nt (T : Nat → Nat → Int32) (r : Nat → Int32) (p c n : Nat) : Nat := cnt (fun w => !hl T (setS T (wRow T w r)) p c) n
def wk (T : Nat → Nat → Int32) (r : Nat → Int32) (p : Nat) : Nat → Nat → Nat → Nat
  | 0, _, b => b
  | k + 1, c, b => wk T r p k (c + 1) (if nt T r p b (wN T) < nt T r p c (wN T) then c else b)
def aWeak (T : Nat → Nat → Int32) (r : Nat → Int32) (p what : Nat) : Int32 := if what = 0 then nI (wk T r p (tn (T 6 p) - 1) 1 0) else nI (nt T r p (wk T r p (tn (T 6 p) - 1) 1 0) (wN T))
theorem nt_s {T : Nat → Nat → Int32} {r : Nat → Int32} {p c n : Nat} : nt T r p c (n + 1) = if hl T (setS T (wRow T n r)) p c = true then nt T r p c n else nt T r p c n + 1 := by
  show (if !hl T (setS T (wRow T n r)) p c then nt T r p c n + 1 else nt T r p c n) = _
  cases hl T (setS T (wRow T n r)) p c <;> rfl
theorem nt_le {T : Nat → Nat → Int32} {r : Nat → Int32} {p c n : Nat} : nt T r p c n ≤ n := cnt_le n
theorem ar_45 {h : XH} (hs : Sh h) : Ar h 45 6 := ⟨sk_45 hs, sn_45 hs, by decide⟩
def I44 (T : Nat → Nat → Int32) (r s : Nat → Int32) : Prop := ∀ i, (tn (T 0 0) ≤ i ∧ i < 8) ∨ i = 14 ∨ i = 15 → s i = r i
abbrev SK : List Nat := [34, 35, 44, 45]
section WK
variable {T : Nat → Nat → Int32} {c0 : Nat} {h0 h : XH} {r : Nat → Int32} {Q : Value → XH → Prop} {p : Nat}
theorem wk_lt {n : Nat} : ∀ k c b, b < n → c + k ≤ n → wk T r p k c b < n := by
  intro k
  induction k with
  | zero => intro c b hb _; exact hb
  | succ k ih =>
    intro c b hb hc
    refine ih (c + 1) _ ?_ (by omega)
    split <;> omega
theorem row_w {w : Nat} {s s1 : Nat → Int32} (t : tA T) (hro : rOk T r) (h44 : I44 T r s) (e : EqR s1 (wRow T w s)) : Eq16 (ptS (nI (wsh T r w)) 6 0 s1) (setS T (wRow T w r)) := by
  have f8 := t.f8
  have hlt := wsh_lt (w := w) t hro
  have hrw := rOk_w (w := w) t hro
  have hsh := (rOk_set t hrw).1
  intro i hi
  rw [ptS_at 6 0 _ s1 (by omega) i]
  by_cases q : 8 + 0 ≤ i ∧ i < 8 + 0 + 6
  · rw [if_pos q, show i - 8 - 0 = i - 8 by omega]
    have := dig_r hsh (p := i - 8) (by omega)
    rw [show 8 + (i - 8) = i by omega] at this
    exact this
  · rw [if_neg q, e i (by omega), setS_i t hrw (by omega)]
    unfold wRow
    by_cases q2 : i < tn (T 0 0)
    · rw [if_pos q2, if_pos q2]
    · rw [if_neg q2, if_neg q2]
      exact h44 i (by omega)
/-- which of the counts is greatest: the class -/
theorem l_cwk {n j : Nat} (hs : Sh h) (hn : n ≤ 6) (W2 : wN T ≤ 2000) (h45 : ∀ c, c < n → xI h 45 c = nI (nt T r p c (wN T))) (hj : j < 2) (kk : Q (.int (if j = 0 then nI (wk T r p (n - 1) 1 0) else nI (nt T r p (wk T r p (n - 1) 1 0) (wN T)))) h) : ∀ k c b, c + k = n → b < n → wk T r p (n - 1) 1 0 = wk T r p k c b → Ev 119 137 [.ref 43, .null, .int (nI j), .null, .null, .int (nI n), .int (nI b), .int (nI c)] [] h Q := by
  intro k
  induction k with
  | zero =>
    intro c b hk hb e
    have eb := h45 b hb
    have e : wk T r p (n - 1) 1 0 = b := e
    rw [e] at kk
    refine B_119_137 hs ?_
    rcases (show j = 0 ∨ j = 1 by omega) with z | z
    · subst z; try simp (disch := omega) only [lit, tn_nI, z_inb, nI_add, pk_mul, z_le, z_nle, z_lt, z_nlt, z_ne, z_m1, pk_sub, xI_ss, xI_sd, xI_n, eq_self, true_and, and_true, and_self, not_true_eq_false, not_false_eq_true, false_implies, true_implies, implies_true, Classical.not_not, forall_const, true_or, or_true, false_or, or_false, false_and, and_false, if_true, if_false, ite_true, ite_false, reduceIte, reduceCtorEq]; exact kk
    · subst z; try simp (disch := omega) only [lit, tn_nI, z_inb, nI_add, pk_mul, z_le, z_nle, z_lt, z_nlt, z_ne, z_m1, pk_sub, xI_ss, xI_sd, xI_n, eq_self, true_and, and_true, and_self, not_true_eq_false, not_false_eq_true, false_implies, true_implies, implies_true, Classical.not_not, forall_const, true_or, or_true, false_or, or_false, false_and, and_false, if_true, if_false, ite_true, ite_false, reduceIte, reduceCtorEq, eb]; exact kk
  | succ k ih =>
    intro c b hk hb e
    have ec := h45 c (by omega)
    have eb := h45 b hb
    have n1 := nt_le (T := T) (r := r) (p := p) (c := c) (n := wN T)
    have n2 := nt_le (T := T) (r := r) (p := p) (c := b) (n := wN T)
    have e : wk T r p (n - 1) 1 0 = wk T r p k (c + 1) (if nt T r p b (wN T) < nt T r p c (wN T) then c else b) := e
    refine B_119_137 hs ?_
    try simp (disch := omega) only [lit, tn_nI, z_inb, nI_add, pk_mul, z_le, z_nle, z_lt, z_nlt, z_ne, z_m1, pk_sub, xI_ss, xI_sd, xI_n, eq_self, true_and, and_true, and_self, not_true_eq_false, not_false_eq_true, false_implies, true_implies, implies_true, Classical.not_not, forall_const, true_or, or_true, false_or, or_false, false_and, and_false, if_true, if_false, ite_true, ite_false, reduceIte, reduceCtorEq, ec, eb]
    by_cases q : nt T r p b (wN T) < nt T r p c (wN T)
    · rw [if_pos q] at e
      try simp (disch := omega) only [lit, tn_nI, z_inb, nI_add, pk_mul, z_le, z_nle, z_lt, z_nlt, z_ne, z_m1, pk_sub, xI_ss, xI_sd, xI_n, eq_self, true_and, and_true, and_self, not_true_eq_false, not_false_eq_true, false_implies, true_implies, implies_true, Classical.not_not, forall_const, true_or, or_true, false_or, or_false, false_and, and_false, if_true, if_false, ite_true, ite_false, reduceIte, reduceCtorEq]
      refine B_119_165 hs ?_
      try simp (disch := omega) only [lit, tn_nI, z_inb, nI_add, pk_mul, z_le, z_nle, z_lt, z_nlt, z_ne, z_m1, pk_sub, xI_ss, xI_sd, xI_n, eq_self, true_and, and_true, and_self, not_true_eq_false, not_false_eq_true, false_implies, true_implies, implies_true, Classical.not_not, forall_const, true_or, or_true, false_or, or_false, false_and, and_false, if_true, if_false, ite_true, ite_false, reduceIte, reduceCtorEq]
      exact ih (c + 1) c (by omega) (by omega) e
    · rw [if_neg q] at e
      try simp (disch := omega) only [lit, tn_nI, z_inb, nI_add, pk_mul, z_le, z_nle, z_lt, z_nlt, z_ne, z_m1, pk_sub, xI_ss, xI_sd, xI_n, eq_self, true_and, and_true, and_self, not_true_eq_false, not_false_eq_true, false_implies, true_implies, implies_true, Classical.not_not, forall_const, true_or, or_true, false_or, or_false, false_and, and_false, if_true, if_false, ite_true, ite_false, reduceIte, reduceCtorEq]
      refine B_119_165 hs ?_
      try simp (disch := omega) only [lit, tn_nI, z_inb, nI_add, pk_mul, z_le, z_nle, z_lt, z_nlt, z_ne, z_m1, pk_sub, xI_ss, xI_sd, xI_n, eq_self, true_and, and_true, and_self, not_true_eq_false, not_false_eq_true, false_implies, true_implies, implies_true, Classical.not_not, forall_const, true_or, or_true, false_or, or_false, false_and, and_false, if_true, if_false, ite_true, ite_false, reduceIte, reduceCtorEq]
      exact ih (c + 1) b (by omega) hb e
theorem l_cw1 {n j w : Nat} (M : CM T c0 h0) (hp : p < 6) (hn : n ≤ 6) (hw : w < wN T) (he : Eq16 (xI h0 44) (setS T (wRow T w r))) (kk : ∀ h1, Fx [34, 35, 45] h0 h1 → (∀ c, c < n → xI h1 45 c = nI (nt T r p c (w + 1))) → Ev 119 46 [.ref 43, .int (nI p), .int (nI j), .null, .ref c0, .int (nI n), .int (nI (w + 1)), .null] [] h1 Q) :
    ∀ (k c : Nat) (h : XH), c + k = n → Fx [34, 35, 45] h0 h → (∀ d, d < c → xI h 45 d = nI (nt T r p d (w + 1))) → (∀ d, c ≤ d → d < n → xI h 45 d = nI (nt T r p d w)) → Ev 119 84 [.ref 43, .int (nI p), .int (nI j), .null, .ref c0, .int (nI n), .int (nI w), .int (nI c)] [] h Q := by
  have W2 : wN T ≤ 2000 := M.2.2.2.w.1
  intro k
  induction k with
  | zero =>
    intro c h hk f h1 h2
    have M' := M.fx f (by decide)
    refine B_119_84 M'.1 M'.c2 ?_
    try simp (disch := omega) only [lit, tn_nI, z_inb, nI_add, pk_mul, z_le, z_nle, z_lt, z_nlt, z_ne, z_m1, pk_sub, xI_ss, xI_sd, xI_n, eq_self, true_and, and_true, and_self, not_true_eq_false, not_false_eq_true, false_implies, true_implies, implies_true, Classical.not_not, forall_const, true_or, or_true, false_or, or_false, false_and, and_false, if_true, if_false, ite_true, ite_false, reduceIte, reduceCtorEq]
    exact kk h f (fun d hd => h1 d (by omega))
  | succ k ih =>
    intro c h hk f h1 h2
    have M' := M.fx f (by decide)
    have e45 := h2 c (Nat.le_refl _) (by omega)
    have hnt := nt_le (T := T) (r := r) (p := p) (c := c) (n := w)
    have eh : hl T (xI h 44) p c = hl T (setS T (wRow T w r)) p c := hl_eq M.2.2.2.cv (by rw [f.at (by decide)]; exact he) p c
    refine B_119_84 M'.1 M'.c2 ?_
    try simp (disch := omega) only [lit, tn_nI, z_inb, nI_add, pk_mul, z_le, z_nle, z_lt, z_nlt, z_ne, z_m1, pk_sub, xI_ss, xI_sd, xI_n, eq_self, true_and, and_true, and_self, not_true_eq_false, not_false_eq_true, false_implies, true_implies, implies_true, Classical.not_not, forall_const, true_or, or_true, false_or, or_false, false_and, and_false, if_true, if_false, ite_true, ite_false, reduceIte, reduceCtorEq]
    refine c_holds M'.1 (ar_44 M'.1) (by decide) (by rw [M'.2.2.1]; exact M'.2.2.2.cv.c) hp (by omega) (fun h3 f3 => ?_)
    have f4 : Fx [34, 35, 45] h0 h3 := f.trm f3 (by decide) (by decide)
    have M3 := M.fx f4 (by decide)
    rw [M'.2.2.1, eh]
    have e45' : xI h3 45 = xI h 45 := f3.at (by decide)
    have es := nt_s (T := T) (r := r) (p := p) (c := c) (n := w)
    refine ⟨M3.1, ?_⟩
    by_cases q : hl T (setS T (wRow T w r)) p c = true
    · rw [if_pos q] at es ⊢
      try simp (disch := omega) only [lit, tn_nI, z_inb, nI_add, pk_mul, z_le, z_nle, z_lt, z_nlt, z_ne, z_m1, pk_sub, xI_ss, xI_sd, xI_n, eq_self, true_and, and_true, and_self, not_true_eq_false, not_false_eq_true, false_implies, true_implies, implies_true, Classical.not_not, forall_const, true_or, or_true, false_or, or_false, false_and, and_false, if_true, if_false, ite_true, ite_false, reduceIte, reduceCtorEq]
      refine B_119_119 M3.1 M3.c2 ?_
      try simp (disch := omega) only [lit, tn_nI, z_inb, nI_add, pk_mul, z_le, z_nle, z_lt, z_nlt, z_ne, z_m1, pk_sub, xI_ss, xI_sd, xI_n, eq_self, true_and, and_true, and_self, not_true_eq_false, not_false_eq_true, false_implies, true_implies, implies_true, Classical.not_not, forall_const, true_or, or_true, false_or, or_false, false_and, and_false, if_true, if_false, ite_true, ite_false, reduceIte, reduceCtorEq]
      refine ih (c + 1) h3 (by omega) f4 (fun d hd => ?_) (fun d hd hn => by rw [e45']; exact h2 d (by omega) hn)
      rw [e45']
      by_cases z : d = c
      · subst z; rw [es]; exact e45
      · exact h1 d (by omega)
    · rw [if_neg q] at es ⊢
      rw [← e45'] at e45
      try simp (disch := omega) only [lit, tn_nI, z_inb, nI_add, pk_mul, z_le, z_nle, z_lt, z_nlt, z_ne, z_m1, pk_sub, xI_ss, xI_sd, xI_n, eq_self, true_and, and_true, and_self, not_true_eq_false, not_false_eq_true, false_implies, true_implies, implies_true, Classical.not_not, forall_const, true_or, or_true, false_or, or_false, false_and, and_false, if_true, if_false, ite_true, ite_false, reduceIte, reduceCtorEq, e45]
      have f5 : Fx [34, 35, 45] h0 (xsI h3 45 c (nI (nt T r p c w + 1))) := f4.set (by decide)
      have M5 := M.fx f5 (by decide)
      refine B_119_119 M5.1 M5.c2 ?_
      try simp (disch := omega) only [lit, tn_nI, z_inb, nI_add, pk_mul, z_le, z_nle, z_lt, z_nlt, z_ne, z_m1, pk_sub, xI_ss, xI_sd, xI_n, eq_self, true_and, and_true, and_self, not_true_eq_false, not_false_eq_true, false_implies, true_implies, implies_true, Classical.not_not, forall_const, true_or, or_true, false_or, or_false, false_and, and_false, if_true, if_false, ite_true, ite_false, reduceIte, reduceCtorEq]
      refine ih (c + 1) _ (by omega) f5 (fun d hd => ?_) (fun d hd hn => by rw [xI_sd (by omega), e45']; exact h2 d (by omega) hn)
      by_cases z : d = c
      · subst z; rw [es]; exact xI_ss
      · rw [xI_sd z, e45']; exact h1 d (by omega)
theorem l_cw2 {n j : Nat} (A : CWn T c0 r h0) (hp : p < 6) (hn : 1 ≤ n ∧ n ≤ 6) (hj : j < 2) (kk : ∀ h1, Fx SK h0 h1 → Q (.int (if j = 0 then nI (wk T r p (n - 1) 1 0) else nI (nt T r p (wk T r p (n - 1) 1 0) (wN T)))) h1) :
    ∀ (k w : Nat) (h : XH), w + k = wN T → Fx SK h0 h → I44 T r (xI h 44) → (∀ c, c < n → xI h 45 c = nI (nt T r p c w)) → Ev 119 46 [.ref 43, .int (nI p), .int (nI j), .null, .ref c0, .int (nI n), .int (nI w), .null] [] h Q := by
  have W2 := A.w.2.1
  obtain ⟨l1, l2⟩ := A.len
  have f8 := A.1.f8
  have hg := g_43 A.1.1
  intro k
  induction k with
  | zero =>
    intro w h hk f h44 h45
    have M' := A.1.fx f (by decide)
    have e6 : xI h c0 6 = nI (wN T) := by rw [M'.t0]; exact A.1.2.2.2.w.2.1
    have hw : w = wN T := by omega
    subst hw
    refine B_119_46 M'.1 M'.c2 ?_
    try simp (disch := omega) only [lit, tn_nI, z_inb, nI_add, pk_mul, z_le, z_nle, z_lt, z_nlt, z_ne, z_m1, pk_sub, xI_ss, xI_sd, xI_n, eq_self, true_and, and_true, and_self, not_true_eq_false, not_false_eq_true, false_implies, true_implies, implies_true, Classical.not_not, forall_const, true_or, or_true, false_or, or_false, false_and, and_false, if_true, if_false, ite_true, ite_false, reduceIte, reduceCtorEq, e6]
    exact l_cwk M'.1 hn.2 W2 h45 hj (kk h f) (n - 1) 1 0 (by omega) (by omega) rfl
  | succ k ih =>
    intro w h hk f h44 h45
    have M' := A.1.fx f (by decide)
    have e6 : xI h c0 6 = nI (wN T) := by rw [M'.t0]; exact A.1.2.2.2.w.2.1
    refine B_119_46 M'.1 M'.c2 ?_
    try simp (disch := omega) only [lit, tn_nI, z_inb, nI_add, pk_mul, z_le, z_nle, z_lt, z_nlt, z_ne, z_m1, pk_sub, xI_ss, xI_sd, xI_n, eq_self, true_and, and_true, and_self, not_true_eq_false, not_false_eq_true, false_implies, true_implies, implies_true, Classical.not_not, forall_const, true_or, or_true, false_or, or_false, false_and, and_false, if_true, if_false, ite_true, ite_false, reduceIte, reduceCtorEq, e6]
    refine c_ptC M' (ar_44 M'.1) (by decide) (by omega) EqR.rf (fun h1 f1 e1 => ?_)
    have fA : Fx SK h0 h1 := f.trm f1 (by decide) (by decide)
    have M1 := A.1.fx fA (by decide)
    have eR : xR h1 43 4 = xR h0 43 4 := by rw [fA.1]
    have eN : xN h1 (xR h0 43 4) = xN h0 (xR h0 43 4) := by rw [fA.2.2.2.1]
    have eV : xI h1 (xR h0 43 4) w = nI (wsh T r w) := by rw [fA.at (by simp; omega)]; exact A.2.2.2.1.2.2 w (by omega)
    refine ⟨M1.1, ?_⟩
    rw [eR, eN]
    try simp (disch := omega) only [lit, tn_nI, z_inb, nI_add, pk_mul, z_le, z_nle, z_lt, z_nlt, z_ne, z_m1, pk_sub, xI_ss, xI_sd, xI_n, eq_self, true_and, and_true, and_self, not_true_eq_false, not_false_eq_true, false_implies, true_implies, implies_true, Classical.not_not, forall_const, true_or, or_true, false_or, or_false, false_and, and_false, if_true, if_false, ite_true, ite_false, reduceIte, reduceCtorEq, eV]
    refine c_putShades M1.1 (ar_44 M1.1) (by decide) (fun h2 f2 e2 => ?_)
    have fB : Fx SK h0 h2 := fA.trm f2 (by decide) (by decide)
    have M2 := A.1.fx fB (by decide)
    have he : Eq16 (xI h2 44) (setS T (wRow T w r)) := by rw [e2]; exact row_w A.1.2.2.2 A.2.2.1 h44 e1
    have h44' : I44 T r (xI h2 44) := fun i hi => by
      have hrw := rOk_w (w := w) A.1.2.2.2 A.2.2.1
      rw [he i (by omega), setS_i A.1.2.2.2 hrw (by omega)]
      unfold wRow
      rw [if_neg (by omega)]
    have h45' : xI h2 45 = xI h 45 := (f2.at (by decide)).trans (f1.at (by decide))
    refine ⟨M2.1, ?_⟩
    refine l_cw1 M2 hp hn.2 (by omega) he (fun h3 f3 q3 => ?_) n 0 h2 (by omega) Fx.rf (fun d hd => absurd hd (by omega)) (fun d _ hd => by rw [h45']; exact h45 d hd)
    exact ih (w + 1) h3 (by omega) (fB.trm f3 (by decide) (by decide)) (by rw [f3.at (by decide)]; exact h44') q3
abbrev SL : List Nat := [34, 35, 36, 38, 43, 44, 45]
theorem hx_fx {S1 S2 S : List Nat} {G : List (Nat × Nat)} {h h1 h2 : XH} (p : Hx S1 G h h1) (f : Fx S2 h1 h2) (s : Sh h) (hS1 : ∀ a ∈ S1, a ∈ S) (hS2 : ∀ a ∈ S2, a ∈ S) (h1S : 1 ∉ S2) (hG : ∀ q ∈ G, q ∈ GK) : Hx S G h h2 := (p.mono hS1 (fun _ q => q) (fun q hq => gk_lt s q (hG q hq))).tr ((f.hx p.1 h1S).mono hS2 (fun _ q => q) (fun q hq => gk_lt p.1 q (hG q hq)))
theorem CWn.fx {S : List Nat} (A : CWn T c0 r h0) (f : Fx S h0 h) (hS : ∀ a ∈ S, 34 ≤ a ∧ a < 124 ∧ a ≠ 39 ∧ a ≠ 43 ∧ a ≠ 46) : CWn T c0 r h := by
  have hg := g_43 A.1.1
  have eR : xR h 43 4 = xR h0 43 4 := by rw [f.1]
  have hn : ∀ a, (a = 39 ∨ a = 43 ∨ a = xR h0 43 4) → a ∉ S := fun a ha q => by have := hS a q; omega
  refine ⟨A.1.fx f (fun a ha => (hS a ha).1), by rw [f.at (hn 39 (Or.inl rfl))]; exact A.2.1, A.2.2.1, ?_, ?_⟩
  · unfold WOn
    rw [eR, f.2.2.2.1, f.at (hn 43 (Or.inr (Or.inl rfl))), f.at (hn _ (Or.inr (Or.inr rfl)))]
    exact A.2.2.2.1
  · exact (f.hx (G := []) A.1.1 (fun q => by have := hS 1 q; omega)).2.2.2.2.1 A.2.2.2.2
theorem c_cWeak {x y : Int32} {K : Int32 → XH → Prop} (A : CW T c0 r h) (k : ∀ h1, Hx SL [(43, 4)] h h1 → CW T c0 r h1 → K (opN x (tn (T 0 1)) (-1) (fun p => opN y 2 (-1) (fun w => aWeak T r p w))) h1) : ClI 118 [.ref 4, .int x, .int y] h K := by
  have p6 := A.1.p6
  refine B_118_0 A.1.1 (c_cPage A.1 (fun p hp e => ⟨A.1.1, ?_⟩) (fun q => ⟨A.1.1, ?_⟩))
  · subst e
    rw [opN_1 hp (by omega)] at k
    try simp (disch := omega) only [lit, tn_nI, z_inb, nI_add, pk_mul, z_le, z_nle, z_lt, z_nlt, z_ne, z_m1, pk_sub, xI_ss, xI_sd, xI_n, eq_self, true_and, and_true, and_self, not_true_eq_false, not_false_eq_true, false_implies, true_implies, implies_true, Classical.not_not, forall_const, true_or, or_true, false_or, or_false, false_and, and_false, if_true, if_false, ite_true, ite_false, reduceIte, reduceCtorEq]
    refine c_oneTwo A.1.1 (fun j hj e => ⟨A.1.1, ?_⟩) (fun q => ⟨A.1.1, ?_⟩)
    · subst e
      rw [opN_1 hj (by omega)] at k
      try simp (disch := omega) only [lit, tn_nI, z_inb, nI_add, pk_mul, z_le, z_nle, z_lt, z_nlt, z_ne, z_m1, pk_sub, xI_ss, xI_sd, xI_n, eq_self, true_and, and_true, and_self, not_true_eq_false, not_false_eq_true, false_implies, true_implies, implies_true, Classical.not_not, forall_const, true_or, or_true, false_or, or_false, false_and, and_false, if_true, if_false, ite_true, ite_false, reduceIte, reduceCtorEq]
      refine B_119_0 A.1.1 (A.fill (fun h1 f A1 => ?_))
      obtain ⟨n, n1, n6, en⟩ := A1.1.2.2.2.n.1 p hp
      have e6 : xI h1 (c0 + 6) p = nI n := by rw [A1.1.t (by decide)]; exact en
      have ec := A1.1.2.1
      unfold aWeak at k
      rw [en, tn_nI (by omega)] at k
      try simp (disch := omega) only [lit, tn_nI, z_inb, nI_add, pk_mul, z_le, z_nle, z_lt, z_nlt, z_ne, z_m1, pk_sub, xI_ss, xI_sd, xI_n, eq_self, true_and, and_true, and_self, not_true_eq_false, not_false_eq_true, false_implies, true_implies, implies_true, Classical.not_not, forall_const, true_or, or_true, false_or, or_false, false_and, and_false, if_true, if_false, ite_true, ite_false, reduceIte, reduceCtorEq, ec, e6]
      refine c_fill A1.1.1 (ar_45 A1.1.1) (by decide) (by decide) (fun h2 f2 e2 => ?_)
      have A2 := A1.fx f2 (by decide)
      refine ⟨A2.1.1, by decide, ?_⟩
      have f3 : Fx SK h1 (xsA h2 44 (va_cpy (xI h2 39) (xI h2 44) 0 0 20)) := (f2.mono (by decide)).setA (by decide)
      have e44 : EqR (xI (xsA h2 44 (va_cpy (xI h2 39) (xI h2 44) 0 0 20)) 44) r := by rw [xI_A]; exact cpy_eq.tr A2.2.1
      have e45 : xI (xsA h2 44 (va_cpy (xI h2 39) (xI h2 44) 0 0 20)) 45 = filI (nI 0) 6 (xI h1 45) := (xI_An (by decide)).trans e2
      generalize xsA h2 44 (va_cpy (xI h2 39) (xI h2 44) 0 0 20) = h3 at f3 e44 e45 ⊢
      refine l_cw2 A1 (by omega) ⟨n1, n6⟩ hj (fun h4 f4 => ⟨_, rfl, (A1.1.fx f4 (by decide)).1, _, rfl, k h4 (hx_fx f f4 A.1.1 (by decide) (by decide) (by decide) (by decide)) (A1.fx f4 (by decide)).to⟩) (wN T) 0 h3 (by omega) f3 (fun i hi => e44 i (by have := A1.1.f8; omega)) (fun c hc => ?_)
      rw [e45]
      unfold filI
      rw [if_pos (by omega)]
      rfl
    · rw [opN_0 q] at k
      try simp (disch := omega) only [lit, tn_nI, z_inb, nI_add, pk_mul, z_le, z_nle, z_lt, z_nlt, z_ne, z_m1, pk_sub, xI_ss, xI_sd, xI_n, eq_self, true_and, and_true, and_self, not_true_eq_false, not_false_eq_true, false_implies, true_implies, implies_true, Classical.not_not, forall_const, true_or, or_true, false_or, or_false, false_and, and_false, if_true, if_false, ite_true, ite_false, reduceIte, reduceCtorEq]
      exact ⟨_, rfl, k h (Hx.rf A.1.1) A⟩
  · rw [opN_0 q] at k
    try simp (disch := omega) only [lit, tn_nI, z_inb, nI_add, pk_mul, z_le, z_nle, z_lt, z_nlt, z_ne, z_m1, pk_sub, xI_ss, xI_sd, xI_n, eq_self, true_and, and_true, and_self, not_true_eq_false, not_false_eq_true, false_implies, true_implies, implies_true, Classical.not_not, forall_const, true_or, or_true, false_or, or_false, false_and, and_false, if_true, if_false, ite_true, ite_false, reduceIte, reduceCtorEq]
    exact ⟨_, rfl, k h (Hx.rf A.1.1) A⟩
end WK

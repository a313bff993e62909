/-! THE PAST of both -/
/-- the k-th last row, once r is kept -/
def pus (r : Nat → Int32) (f : Nat → Nat → Int32) : Nat → Nat → Int32
  | 0 => r
  | k + 1 => f k
/-- how many are kept then -/
def n50 (n : Nat) : Nat := if n < 50 then n + 1 else 50
def PC (n : Nat) (f : Nat → Nat → Int32) (h : XH) : Prop := ∃ t, t < 50 ∧ n ≤ 50 ∧ xI h 40 0 = nI n ∧ xI h 40 1 = nI t ∧ ∀ k, k < n → ∀ i, i < 20 → xI h 41 (20 * ((t + 49 - k) % 50) + i) = f k i
def PR (n : Nat) (f : Nat → Nat → Int32) (h : XH) : Prop := n ≤ 50 ∧ xI h 69 65 = nI n ∧ ∀ k, k < n → ∀ i, i < 20 → xI h 113 (20 * (n - 1 - k) + i) = sw (f k) i
theorem cpy_out {α : Type} {f g : Nat → α} {sp dp n j : Nat} (h : j < dp ∨ dp + n ≤ j) : va_cpy f g sp dp n j = g j := if_neg (fun q => by omega)
theorem pk_rm {a d : Nat} (ha : a < 2 ^ 31) (hd : 0 < d) (hd2 : d < 2 ^ 31) : nI a - nI a / nI d * nI d = nI (a % d) := by
  rw [pk_div ha hd hd2, pk_mul]
  exact z_rem
section PA
variable {h0 h : XH} {n : Nat} {f : Nat → Nat → Int32} {r r' : Nat → Int32} {Q : Value → XH → Prop}
theorem c_keep {K : XH → Prop} (hs : Sh h) (P : PC n f h) (hr : EqR (xI h 39) r) (k : ∀ h1, Fx [40, 41] h h1 → PC (n50 n) (pus r f) h1 → K h1) : ClV 78 [.ref 40, .ref 39] h K := by
  obtain ⟨t, ht, hn, e0, e1, hq⟩ := P
  have em : nI t * (20 : Int32) = nI (t * 20) := pk_mul _ _
  refine B_78_0 hs ?_
  rw [e1, em, tn_nI (show t * 20 < 2 ^ 31 by omega)]
  refine ⟨⟨by decide, by decide, nI_pos (by omega), by decide, by decide, by show t * 20 + 20 ≤ 1000; omega⟩, fun h1 eh => ?_⟩
  have e11 : xI (xsA h 41 (va_cpy (xI h 39) (xI h 41) (tn (0 : Int32)) (t * 20) (tn (20 : Int32)))) 40 1 = nI t := e1
  rw [e11, show nI t + (1 : Int32) = nI (t + 1) from nI_1 _, show nI (t + 1) - nI (t + 1) / 50 * 50 = nI ((t + 1) % 50) from pk_rm (d := 50) (by omega) (by decide) (by decide)] at eh
  have f1 : Fx [40, 41] h h1 := by rw [eh]; exact (Fx.rf.setA (by decide)).set (by decide)
  have e01 : xI h1 40 0 = nI n := by rw [eh, xI_sd (by decide)]; exact e0
  have h41 : xI h1 41 = va_cpy (xI h 39) (xI h 41) 0 (t * 20) 20 := by rw [eh, xI_n (by decide)]; exact xI_A
  have t1 : xI h1 40 1 = nI ((t + 1) % 50) := by rw [eh]; exact xI_ss
  clear eh
  have en : (if (50 : Int32) < nI n + 1 then (50 : Int32) else nI n + 1) = nI (n50 n) := by
    rw [nI_1]
    unfold n50
    by_cases q : n < 50
    · rw [if_pos q]; exact if_neg (nI_nlt (a := 50) (b := n + 1) (by omega) (by decide))
    · rw [if_neg q]; exact if_pos (nI_lt (a := 50) (b := n + 1) (by omega) (by omega))
  rw [e01, en]
  have hn5 : n50 n ≤ 50 ∧ n50 n ≤ n + 1 := by unfold n50; split <;> omega
  refine ⟨rfl, k _ (f1.set (by decide)) ⟨(t + 1) % 50, by omega, hn5.1, xI_ss, by rw [xI_sd (by decide)]; exact t1, fun k hk i hi => ?_⟩⟩
  rw [xI_n (by decide), h41]
  cases k with
  | zero =>
    rw [show 20 * (((t + 1) % 50 + 49 - 0) % 50) + i = t * 20 + i by omega, pk_cpy_in (by omega) (by omega), show 0 + (t * 20 + i - t * 20) = i by omega]
    exact hr i hi
  | succ k =>
    have q := hq k (by omega) i hi
    have hp : ((t + 1) % 50 + 49 - (k + 1)) % 50 = (t + 49 - k) % 50 := by omega
    have hne : (t + 49 - k) % 50 ≠ t := by omega
    rw [hp, cpy_out (by omega)]
    exact q
theorem c_takeBack {K : Int32 → XH → Prop} (hs : Sh h) (P : PC n f h) (k1 : ∀ m, n = m + 1 → ∀ h1, Fx [39, 40] h h1 → EqR (xI h1 39) (f 0) → PC m (fun k => f (k + 1)) h1 → K (nI 1) h1) (k0 : n = 0 → K (nI 0) h) : ClI 85 [.ref 40, .ref 39] h K := by
  obtain ⟨t, ht, hn, e0, e1, hq⟩ := P
  refine B_85_0 hs ?_
  rw [e0, e1]
  refine ⟨fun z => ?_, fun z => ?_⟩
  · have n0 : n ≠ 0 := fun e => z (by rw [e]; rfl)
    obtain ⟨m, rfl⟩ : ∃ m, n = m + 1 := ⟨n - 1, by omega⟩
    intro h1 eh
    have et : nI t + (50 : Int32) - 1 = nI (t + 49) := by
      rw [show nI t + (50 : Int32) = nI (t + 50) from nI_add t 50, show (1 : Int32) = nI 1 from rfl, pk_sub (by omega), show t + 50 - 1 = t + 49 by omega]
    rw [et, show nI (t + 49) - nI (t + 49) / 50 * 50 = nI ((t + 49) % 50) from pk_rm (d := 50) (by omega) (by decide) (by decide), xI_sd (by decide), e0, show nI (m + 1) - 1 = nI m by rw [show (1 : Int32) = nI 1 from rfl, pk_sub (by omega), Nat.add_sub_cancel]] at eh
    have f1 : Fx [39, 40] h h1 := by rw [eh]; exact (Fx.rf.set (by decide)).set (by decide)
    have t1 : xI h1 40 1 = nI ((t + 49) % 50) := by rw [eh, xI_sd (by decide)]; exact xI_ss
    have t0 : xI h1 40 0 = nI m := by rw [eh]; exact xI_ss
    have h41 : xI h1 41 = xI h 41 := f1.at (by decide)
    clear eh
    have em : nI ((t + 49) % 50) * (20 : Int32) = nI ((t + 49) % 50 * 20) := pk_mul _ _
    rw [t1, em, tn_nI (show (t + 49) % 50 * 20 < 2 ^ 31 by omega)]
    refine ⟨⟨by decide, nI_pos (by omega), by decide, by decide, by show (t + 49) % 50 * 20 + 20 ≤ 1000; omega, by decide⟩, _, rfl, k1 m rfl _ (f1.setA (by decide)) (fun i hi => ?_) ⟨(t + 49) % 50, by omega, by omega, t0, t1, fun k hk i hi => ?_⟩⟩
    · rw [xI_A]
      show va_cpy (xI h1 41) (xI h1 39) ((t + 49) % 50 * 20) 0 20 i = f 0 i
      rw [pk_cpy_in (by omega) (by omega), h41]
      have q := hq 0 (by omega) i hi
      rw [show (t + 49) % 50 * 20 + (i - 0) = 20 * ((t + 49 - 0) % 50) + i by omega]
      exact q
    · rw [xI_An (by decide), h41]
      have q := hq (k + 1) (by omega) i hi
      rw [show ((t + 49) % 50 + 49 - k) % 50 = (t + 49 - (k + 1)) % 50 by omega]
      exact q
  · have n0 : n = 0 := (nI_eq (a := n) (b := 0) (by omega) (by decide)).mp (Classical.not_not.mp z)
    exact ⟨_, rfl, k0 n0⟩
theorem c_pclear {K : XH → Prop} (hs : Sh h) (k : ∀ h1, Fx [40] h h1 → PC 0 f h1 → K h1) : ClV 65 [.ref 40] h K :=
  B_65_0 hs ⟨rfl, k _ ((Fx.rf.set (by decide)).set (by decide)) ⟨0, by decide, by decide, by rw [xI_sd (by decide)]; exact xI_ss, xI_ss, fun k hk => absurd hk (by omega)⟩⟩
/-- the reference's shift -/
theorem l_shift (hs : Sh h0) (kk : ∀ h1, Gx [113] [] h0 h1 → (∀ j, j < 980 → xI h1 113 j = xI h0 113 (j + 20)) → Ev 218 51 [.ref 69, .int (nI 0)] [] (xsI h1 69 65 (xI h1 69 65 - nI 1)) Q) : ∀ (m i : Nat) (h : XH), i + m = 980 → Gx [113] [] h0 h → (∀ j, j < i → xI h 113 j = xI h0 113 (j + 20)) → (∀ j, i ≤ j → xI h 113 j = xI h0 113 j) → Ev 218 11 [.ref 69, .int (nI i)] [] h Q := by
  intro m
  induction m with
  | zero =>
    intro i h hm g h1 h2
    refine B_218_11 (g.sh hs (by decide)) ?_
    try simp (disch := omega) only [lit, tn_nI, z_inb, nI_add, pk_mul, z_le, z_nle, z_lt, z_nlt, z_ne, z_m1, pk_sub, xI_ss, xI_sd, xI_n, eq_self, true_and, and_true, and_self, not_true_eq_false, not_false_eq_true, false_implies, true_implies, implies_true, Classical.not_not, forall_const, true_or, or_true, false_or, or_false, false_and, and_false, if_true, if_false, ite_true, ite_false, reduceIte, reduceCtorEq]
    exact kk h g (fun j hj => h1 j (by omega))
  | succ m ih =>
    intro i h hm g h1 h2
    refine B_218_11 (g.sh hs (by decide)) ?_
    try simp (disch := omega) only [lit, tn_nI, z_inb, nI_add, pk_mul, z_le, z_nle, z_lt, z_nlt, z_ne, z_m1, pk_sub, xI_ss, xI_sd, xI_n, eq_self, true_and, and_true, and_self, not_true_eq_false, not_false_eq_true, false_implies, true_implies, implies_true, Classical.not_not, forall_const, true_or, or_true, false_or, or_false, false_and, and_false, if_true, if_false, ite_true, ite_false, reduceIte, reduceCtorEq]
    refine ih (i + 1) _ (by omega) (g.set (by decide) (by decide)) (fun j hj => ?_) (fun j hj => ?_)
    · by_cases e : j = i
      · subst e; rw [xI_ss, h2 _ (by omega)]
      · rw [xI_sd e]; exact h1 j (by omega)
    · rw [xI_sd (by omega)]; exact h2 j (by omega)
theorem l_kept {m : Nat} (hs : Sh h0) (hm : m < 50) (e65 : xI h0 69 65 = nI m) (hr : rq (xI h0 108) r) (hr' : rq (xI h0 109) r') (kk : ∀ h1, Gx [108, 113] [65] h0 h1 → rq (xI h1 108) r' → xI h1 69 65 = nI (m + 1) → (∀ i, i < 20 → xI h1 113 (20 * m + i) = sw r i) → (∀ j, j < 20 * m → xI h1 113 j = xI h0 113 j) → Q .null h1) : ∀ (k i : Nat) (h : XH), i + k = 20 → Gx [113] [] h0 h → (∀ j, j < i → xI h 113 (20 * m + j) = sw r j) → (∀ j, j < 20 * m → xI h 113 j = xI h0 113 j) → Ev 218 51 [.ref 69, .int (nI i)] [] h Q := by
  intro k
  induction k with
  | zero =>
    intro i h hk g h1 h2
    have e := (g.f (j := 65) (by decide)).trans e65
    refine B_218_51 (g.sh hs (by decide)) ?_
    try simp (disch := omega) only [lit, tn_nI, z_inb, nI_add, pk_mul, z_le, z_nle, z_lt, z_nlt, z_ne, z_m1, pk_sub, xI_ss, xI_sd, xI_n, eq_self, true_and, and_true, and_self, not_true_eq_false, not_false_eq_true, false_implies, true_implies, implies_true, Classical.not_not, forall_const, true_or, or_true, false_or, or_false, false_and, and_false, if_true, if_false, ite_true, ite_false, reduceIte, reduceCtorEq, e]
    have g1 : Gx [108, 113] [65] h0 (xsI h 69 65 (nI (m + 1))) := (g.mono (by decide) (by decide)).fld (by decide)
    refine c_keepR (g1.sh hs (by decide)) (r := r') (by rw [xI_n (by decide), g.at (by decide) (by decide)]; exact hr') (fun h3 g3 e3 => ?_)
    have g4 : Gx [108, 113] [65] h0 h3 := g1.tr (g3.mono (by decide) (by decide))
    refine ⟨g4.sh hs (by decide), kk h3 g4 e3 (by rw [g3.f (by decide)]; exact xI_ss) (fun i hi => ?_) (fun j hj => ?_)⟩
    · rw [g3.at (by decide) (by decide), xI_n (by decide)]; exact h1 i (by omega)
    · rw [g3.at (by decide) (by decide), xI_n (by decide)]; exact h2 j hj
  | succ k ih =>
    intro i h hk g h1 h2
    have e := (g.f (j := 65) (by decide)).trans e65
    have e8 : xI h 108 i = sw r i := by rw [g.at (by decide) (by decide)]; exact hr i (by omega)
    refine B_218_51 (g.sh hs (by decide)) ?_
    try simp (disch := omega) only [lit, tn_nI, z_inb, nI_add, pk_mul, z_le, z_nle, z_lt, z_nlt, z_ne, z_m1, pk_sub, xI_ss, xI_sd, xI_n, eq_self, true_and, and_true, and_self, not_true_eq_false, not_false_eq_true, false_implies, true_implies, implies_true, Classical.not_not, forall_const, true_or, or_true, false_or, or_false, false_and, and_false, if_true, if_false, ite_true, ite_false, reduceIte, reduceCtorEq, e, e8]
    refine ih (i + 1) _ (by omega) (g.set (by decide) (by decide)) (fun j hj => ?_) (fun j hj => ?_)
    · by_cases q : j = i
      · subst q; exact xI_ss
      · rw [xI_sd (by omega)]; exact h1 j (by omega)
    · rw [xI_sd (by omega)]; exact h2 j hj
theorem c_keepsR {K : XH → Prop} (hs : Sh h) (P : PR n f h) (hr : rq (xI h 108) r) (hr' : rq (xI h 109) r') (k : ∀ h1, Gx [108, 113] [65] h h1 → rq (xI h1 108) r' → PR (n50 n) (pus r f) h1 → K h1) : ClV 218 [.ref 69] h K := by
  obtain ⟨hn, e, hq⟩ := P
  refine B_218_0 hs ?_
  by_cases q : n < 50
  · have en : n50 n = n + 1 := by unfold n50; rw [if_pos q]
    try simp (disch := omega) only [lit, tn_nI, z_inb, nI_add, pk_mul, z_le, z_nle, z_lt, z_nlt, z_ne, z_m1, pk_sub, xI_ss, xI_sd, xI_n, eq_self, true_and, and_true, and_self, not_true_eq_false, not_false_eq_true, false_implies, true_implies, implies_true, Classical.not_not, forall_const, true_or, or_true, false_or, or_false, false_and, and_false, if_true, if_false, ite_true, ite_false, reduceIte, reduceCtorEq, e]
    refine l_kept hs q e hr hr' (fun h1 g e1 e2 e3 e4 => ⟨rfl, k h1 g e1 ⟨by omega, by rw [en]; exact e2, fun k hk i hi => ?_⟩⟩) 20 0 h (by decide) Gx.rf (fun j hj => absurd hj (by omega)) (fun j _ => rfl)
    rw [en] at hk ⊢
    cases k with
    | zero => exact e3 i hi
    | succ k =>
      have := hq k (by omega) i hi
      rw [show n + 1 - 1 - (k + 1) = n - 1 - k by omega, e4 _ (by omega)]
      exact this
  · have n5 : n = 50 := by omega
    subst n5
    have en : n50 50 = 50 := rfl
    try simp (disch := omega) only [lit, tn_nI, z_inb, nI_add, pk_mul, z_le, z_nle, z_lt, z_nlt, z_ne, z_m1, pk_sub, xI_ss, xI_sd, xI_n, eq_self, true_and, and_true, and_self, not_true_eq_false, not_false_eq_true, false_implies, true_implies, implies_true, Classical.not_not, forall_const, true_or, or_true, false_or, or_false, false_and, and_false, if_true, if_false, ite_true, ite_false, reduceIte, reduceCtorEq, e]
    refine l_shift hs (fun h1 g1 s1 => ?_) 980 0 h (by decide) Gx.rf (fun j hj => absurd hj (by omega)) (fun j _ => rfl)
    have e6 : xI h1 69 65 = nI 50 := (g1.f (by decide)).trans e
    rw [e6, pk_sub (by decide)]
    have g2 : Gx [113] [65] h (xsI h1 69 65 (nI (50 - 1))) := (g1.mono (by decide) (by decide)).fld (by decide)
    refine l_kept (m := 49) (g2.sh hs (by decide)) (by decide) xI_ss (r := r) (r' := r') (by rw [xI_n (by decide), g1.at (by decide) (by decide)]; exact hr) (by rw [xI_n (by decide), g1.at (by decide) (by decide)]; exact hr') (fun h3 g3 e1 e2 e3 e4 => ⟨rfl, k h3 ((g2.mono (by decide) (by decide)).tr g3) e1 ⟨by omega, e2, fun k hk i hi => ?_⟩⟩) 20 0 _ (by decide) Gx.rf (fun j hj => absurd hj (by omega)) (fun j _ => rfl)
    cases k with
    | zero => exact e3 i hi
    | succ k =>
      have := hq k (by omega) i hi
      rw [en] at hk ⊢
      rw [e4 _ (by omega), xI_n (by decide), s1 _ (by omega), show 20 * (50 - 1 - (k + 1)) + i + 20 = 20 * (50 - 1 - k) + i by omega]
      exact this
theorem l_undoR {m : Nat} (hs : Sh h0) (hm : m < 50) (e65 : xI h0 69 65 = nI m) (hq : ∀ i, i < 20 → xI h0 113 (20 * m + i) = sw r i) (kk : ∀ h1, Gx [108] [] h0 h1 → rq (xI h1 108) r → Q (.int (nI 1)) h1) : ∀ (k i : Nat) (h : XH), i + k = 20 → Gx [108] [] h0 h → (∀ j, j < i → xI h 108 j = sw r j) → Ev 221 21 [.ref 69, .int (nI i)] [] h Q := by
  intro k
  induction k with
  | zero =>
    intro i h hk g h1
    refine B_221_21 (g.sh hs (by decide)) ?_
    try simp (disch := omega) only [lit, tn_nI, z_inb, nI_add, pk_mul, z_le, z_nle, z_lt, z_nlt, z_ne, z_m1, pk_sub, xI_ss, xI_sd, xI_n, eq_self, true_and, and_true, and_self, not_true_eq_false, not_false_eq_true, false_implies, true_implies, implies_true, Classical.not_not, forall_const, true_or, or_true, false_or, or_false, false_and, and_false, if_true, if_false, ite_true, ite_false, reduceIte, reduceCtorEq]
    exact kk h g (fun j hj => h1 j (by omega))
  | succ k ih =>
    intro i h hk g h1
    have e := (g.f (j := 65) (by decide)).trans e65
    have e8 : xI h 113 (20 * m + i) = sw r i := by rw [g.at (by decide) (by decide)]; exact hq i (by omega)
    refine B_221_21 (g.sh hs (by decide)) ?_
    try simp (disch := omega) only [lit, tn_nI, z_inb, nI_add, pk_mul, z_le, z_nle, z_lt, z_nlt, z_ne, z_m1, pk_sub, xI_ss, xI_sd, xI_n, eq_self, true_and, and_true, and_self, not_true_eq_false, not_false_eq_true, false_implies, true_implies, implies_true, Classical.not_not, forall_const, true_or, or_true, false_or, or_false, false_and, and_false, if_true, if_false, ite_true, ite_false, reduceIte, reduceCtorEq, e, e8]
    refine ih (i + 1) _ (by omega) (g.set (by decide) (by decide)) (fun j hj => ?_)
    by_cases q : j = i
    · subst q; exact xI_ss
    · rw [xI_sd q]; exact h1 j (by omega)
theorem c_rUndo {K : Int32 → XH → Prop} (hs : Sh h) (P : PR n f h) (k1 : ∀ m, n = m + 1 → ∀ h1, Gx [108] [65] h h1 → rq (xI h1 108) (f 0) → PR m (fun k => f (k + 1)) h1 → K (nI 1) h1) (k0 : n = 0 → K (nI 0) h) : ClI 221 [.ref 69] h K := by
  obtain ⟨hn, e, hq⟩ := P
  refine B_221_0 hs ?_
  cases n with
  | zero =>
    try simp (disch := omega) only [lit, tn_nI, z_inb, nI_add, pk_mul, z_le, z_nle, z_lt, z_nlt, z_ne, z_m1, pk_sub, xI_ss, xI_sd, xI_n, eq_self, true_and, and_true, and_self, not_true_eq_false, not_false_eq_true, false_implies, true_implies, implies_true, Classical.not_not, forall_const, true_or, or_true, false_or, or_false, false_and, and_false, if_true, if_false, ite_true, ite_false, reduceIte, reduceCtorEq, e]
    exact ⟨_, rfl, k0 rfl⟩
  | succ m =>
    try simp (disch := omega) only [lit, tn_nI, z_inb, nI_add, pk_mul, z_le, z_nle, z_lt, z_nlt, z_ne, z_m1, pk_sub, xI_ss, xI_sd, xI_n, eq_self, true_and, and_true, and_self, not_true_eq_false, not_false_eq_true, false_implies, true_implies, implies_true, Classical.not_not, forall_const, true_or, or_true, false_or, or_false, false_and, and_false, if_true, if_false, ite_true, ite_false, reduceIte, reduceCtorEq, e]
    rw [show m + 1 - 1 = m from rfl]
    have g1 : Gx [108] [65] h (xsI h 69 65 (nI m)) := Gx.rf.fld (by decide)
    refine l_undoR (m := m) (r := f 0) (g1.sh hs (by decide)) (by omega) xI_ss (fun i hi => ?_) (fun h3 g3 e3 => ⟨_, rfl, k1 m rfl h3 (g1.tr (g3.mono (by decide) (by decide))) e3 ⟨by omega, by rw [g3.f (by decide)]; exact xI_ss, fun k hk i hi => ?_⟩⟩) 20 0 _ (by decide) Gx.rf (fun j hj => absurd hj (by omega))
    · rw [xI_n (by decide)]
      have := hq 0 (by omega) i hi
      rw [show m + 1 - 1 - 0 = m by omega] at this
      exact this
    · rw [g3.at (by decide) (by decide), xI_n (by decide)]
      have := hq (k + 1) (by omega) i hi
      rw [show m + 1 - 1 - (k + 1) = m - 1 - k by omega] at this
      exact this
end PA

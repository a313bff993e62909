/-! THE REFERENCE: questions about worlds -/
abbrev SV : List Nat := [106, 107, 109, 110, 111, 115]
section RW2
variable {T : Nat → Nat → Int32} {l : Nat} {r : Nat → Int32} {h0 h : XH} {Q : Value → XH → Prop} {p : Nat}
/-- worlds filled in -/
def RF (T : Nat → Nat → Int32) (l : Nat) (r : Nat → Int32) (h : XH) : Prop := RM T l h ∧ rq (xI h 108) r ∧ rOk T r ∧ ∀ w, w < wN T → xI h 115 w = nI (wsh T r w)
theorem c_fillR {K : XH → Prop} (M : RM T l h) (hr : rq (xI h 108) r) (hro : rOk T r) (k : ∀ h1, Gx SV [58, 61] h h1 → RF T l r h1 → K h1) : ClV 239 [.ref 69] h (fun h1 => Sh h1 ∧ K h1) :=
  c_fillW M hr hro (fun h1 g e => ⟨g.sh M.1 (by decide), k h1 g ⟨M.gx g (by decide) (by decide), by rw [g.at (by decide) (by decide)]; exact hr, hro, e⟩⟩)
theorem c_dgR {a : Nat} {K : Int32 → XH → Prop} (hs : Sh h) (ha : a < 2 ^ 31) (hp : p < 7) (k : K (nI (dg a p)) h) : ClI 173 [.int (nI a), .int (nI p)] h K := c_rsi hs ha hp k
theorem l_rblk (A : RF T l r h) (hp : p < 6) (kk : Q (.int (nI (cnt (blk T r p) (wN T)))) h) : ∀ (m w : Nat), w + m = wN T → Ev 238 18 [.ref 69, .int (nI p), .int (nI (cnt (blk T r p) w)), .int (nI w)] [] h Q := by
  obtain ⟨e6, W2⟩ := A.1.wn
  have e18 := A.1.2.1
  have l2 := A.1.l2
  intro m
  induction m with
  | zero =>
    intro w hm
    refine B_238_18 A.1.1 ?_
    try simp (disch := omega) only [lit, tn_nI, z_inb, nI_add, pk_mul, z_le, z_nle, z_lt, z_nlt, z_ne, z_m1, pk_sub, xI_ss, xI_sd, xI_n, eq_self, true_and, and_true, and_self, not_true_eq_false, not_false_eq_true, false_implies, true_implies, implies_true, Classical.not_not, forall_const, true_or, or_true, false_or, or_false, false_and, and_false, if_true, if_false, ite_true, ite_false, reduceIte, reduceCtorEq, e18, e6]
    rw [show w = wN T by omega]
    exact kk
  | succ m ih =>
    intro w hm
    have e := A.2.2.2 w (by omega)
    have hlt := wsh_lt (w := w) A.1.2.2.2 A.2.2.1
    refine B_238_18 A.1.1 ?_
    try simp (disch := omega) only [lit, tn_nI, z_inb, nI_add, pk_mul, z_le, z_nle, z_lt, z_nlt, z_ne, z_m1, pk_sub, xI_ss, xI_sd, xI_n, eq_self, true_and, and_true, and_self, not_true_eq_false, not_false_eq_true, false_implies, true_implies, implies_true, Classical.not_not, forall_const, true_or, or_true, false_or, or_false, false_and, and_false, if_true, if_false, ite_true, ite_false, reduceIte, reduceCtorEq, e18, e6, e]
    have hd := dg_le (s := wsh T r w) (p := p)
    have nx := ih (w + 1) (by omega)
    have eb : cnt (blk T r p) (w + 1) = if blk T r p w then cnt (blk T r p) w + 1 else cnt (blk T r p) w := rfl
    refine c_dgR A.1.1 (by omega) (by omega) ⟨A.1.1, ?_⟩
    by_cases q : dg (wsh T r w) p = 4
    · rw [eb, if_pos (show blk T r p w = true from decide_eq_true q)] at nx
      rw [q]
      try simp (disch := omega) only [lit, tn_nI, z_inb, nI_add, pk_mul, z_le, z_nle, z_lt, z_nlt, z_ne, z_m1, pk_sub, xI_ss, xI_sd, xI_n, eq_self, true_and, and_true, and_self, not_true_eq_false, not_false_eq_true, false_implies, true_implies, implies_true, Classical.not_not, forall_const, true_or, or_true, false_or, or_false, false_and, and_false, if_true, if_false, ite_true, ite_false, reduceIte, reduceCtorEq]
      exact nx
    · rw [eb, if_neg (by unfold blk; rw [decide_eq_false q]; decide)] at nx
      try simp (disch := omega) only [lit, tn_nI, z_inb, nI_add, pk_mul, z_le, z_nle, z_lt, z_nlt, z_ne, z_m1, pk_sub, xI_ss, xI_sd, xI_n, eq_self, true_and, and_true, and_self, not_true_eq_false, not_false_eq_true, false_implies, true_implies, implies_true, Classical.not_not, forall_const, true_or, or_true, false_or, or_false, false_and, and_false, if_true, if_false, ite_true, ite_false, reduceIte, reduceCtorEq]
      exact nx
theorem c_rBlackIn {x : Int32} {K : Int32 → XH → Prop} (M : RM T l h) (hr : rq (xI h 108) r) (hro : rOk T r) (k : ∀ h1, Gx SV [58, 61] h h1 → K (opN x (tn (T 0 1)) (-1) (fun p => nI (cnt (blk T r p) (wN T)))) h1) : ClI 238 [.ref 69, .int x] h K := by
  have p6 := M.p6
  refine B_238_0 M.1 (c_rPage M (fun p hp e => ⟨M.1, ?_⟩) (fun q => ⟨M.1, ?_⟩))
  · subst e
    rw [opN_1 hp (by omega)] at k
    try simp (disch := omega) only [lit, tn_nI, z_inb, nI_add, pk_mul, z_le, z_nle, z_lt, z_nlt, z_ne, z_m1, pk_sub, xI_ss, xI_sd, xI_n, eq_self, true_and, and_true, and_self, not_true_eq_false, not_false_eq_true, false_implies, true_implies, implies_true, Classical.not_not, forall_const, true_or, or_true, false_or, or_false, false_and, and_false, if_true, if_false, ite_true, ite_false, reduceIte, reduceCtorEq]
    exact c_fillR M hr hro (fun h1 g A => l_rblk A (by omega) ⟨_, rfl, k h1 g⟩ (wN T) 0 (by omega))
  · rw [opN_0 q] at k
    try simp (disch := omega) only [lit, tn_nI, z_inb, nI_add, pk_mul, z_le, z_nle, z_lt, z_nlt, z_ne, z_m1, pk_sub, xI_ss, xI_sd, xI_n, eq_self, true_and, and_true, and_self, not_true_eq_false, not_false_eq_true, false_implies, true_implies, implies_true, Classical.not_not, forall_const, true_or, or_true, false_or, or_false, false_and, and_false, if_true, if_false, ite_true, ite_false, reduceIte, reduceCtorEq]
    exact ⟨_, rfl, k h Gx.rf⟩
theorem l_rgcd (hs : Sh h) : ∀ (f a b : Nat), (b < 2 ^ (f / 2) ∨ (b < a ∧ a < 2 ^ ((f + 1) / 2))) → a < 2 ^ 31 → b < 2 ^ 31 → Q (.int (nI (gcdF f a b))) h → Ev 241 4 [.null, .null, .int (nI a), .int (nI b), .null] [] h Q := by
  intro f
  induction f with
  | zero =>
    intro a b hc ha hb hq
    have hb0 : b = 0 := by
      rcases hc with q | q
      · simpa using q
      · have : a < 2 ^ 0 := q.2
        omega
    subst hb0
    refine B_241_4 hs ?_
    try simp (disch := omega) only [lit, tn_nI, z_inb, nI_add, pk_mul, z_le, z_nle, z_lt, z_nlt, z_ne, z_m1, pk_sub, xI_ss, xI_sd, xI_n, eq_self, true_and, and_true, and_self, not_true_eq_false, not_false_eq_true, false_implies, true_implies, implies_true, Classical.not_not, forall_const, true_or, or_true, false_or, or_false, false_and, and_false, if_true, if_false, ite_true, ite_false, reduceIte, reduceCtorEq]
    exact hq
  | succ f ih =>
    intro a b hc ha hb hq
    refine B_241_4 hs ?_
    have hq : Q (.int (nI (if b = 0 then a else gcdF f b (a % b)))) h := hq
    by_cases q : b = 0
    · rw [if_pos q] at hq
      rw [q]
      try simp (disch := omega) only [lit, tn_nI, z_inb, nI_add, pk_mul, z_le, z_nle, z_lt, z_nlt, z_ne, z_m1, pk_sub, xI_ss, xI_sd, xI_n, eq_self, true_and, and_true, and_self, not_true_eq_false, not_false_eq_true, false_implies, true_implies, implies_true, Classical.not_not, forall_const, true_or, or_true, false_or, or_false, false_and, and_false, if_true, if_false, ite_true, ite_false, reduceIte, reduceCtorEq]
      exact hq
    · rw [if_neg q] at hq
      try simp (disch := omega) only [lit, tn_nI, z_inb, nI_add, pk_mul, z_le, z_nle, z_lt, z_nlt, z_ne, z_m1, pk_sub, xI_ss, xI_sd, xI_n, eq_self, true_and, and_true, and_self, not_true_eq_false, not_false_eq_true, false_implies, true_implies, implies_true, Classical.not_not, forall_const, true_or, or_true, false_or, or_false, false_and, and_false, if_true, if_false, ite_true, ite_false, reduceIte, reduceCtorEq, pk_div, z_rem]
      have hm := Nat.mod_lt a (show 0 < b by omega)
      refine ih b (a % b) ?_ hb (by omega) hq
      rcases hc with z | z
      · right
        exact ⟨hm, z⟩
      · left
        have h2 : 2 * (a % b) < a := by
          have h3 := Nat.div_add_mod a b
          have h4 : 1 ≤ a / b := Nat.div_pos (by omega) (by omega)
          have h5 : b * 1 ≤ b * (a / b) := Nat.mul_le_mul_left b h4
          omega
        have e : (f + 1 + 1) / 2 = f / 2 + 1 := by omega
        rw [e, Nat.pow_succ] at z
        omega
theorem l_rsum {y : Int32} (A : RF T l r h) (hp : p < 6) (kk : Q (.int (aGrey T r p y)) h) : ∀ (m w : Nat), w + m = wN T → Ev 240 19 [.ref 69, .int (nI p), .int y, .int (nI (aSum T r p w)), .int (nI w), .null] [] h Q := by
  obtain ⟨e6, W2⟩ := A.1.wn
  have e18 := A.1.2.1
  have l2 := A.1.l2
  intro m
  induction m with
  | zero =>
    intro w hm
    have hw : w = wN T := by omega
    subst hw
    have hsm := aSum_le (T := T) (r := r) (p := p) (wN T)
    have hwp := wN_pos (T := T)
    have hgp : 0 < gcdF 64 (aSum T r p (wN T)) (4 * wN T) := by
      rcases gcdF_pos 64 (aSum T r p (wN T)) (4 * wN T) (Or.inr (by omega)) (by decide) with z | z
      · exact z
      · omega
    have hgl := gcd_le 64 (aSum T r p (wN T)) (4 * wN T)
    refine B_240_19 A.1.1 ?_
    try simp (disch := omega) only [lit, tn_nI, z_inb, nI_add, pk_mul, z_le, z_nle, z_lt, z_nlt, z_ne, z_m1, pk_sub, xI_ss, xI_sd, xI_n, eq_self, true_and, and_true, and_self, not_true_eq_false, not_false_eq_true, false_implies, true_implies, implies_true, Classical.not_not, forall_const, true_or, or_true, false_or, or_false, false_and, and_false, if_true, if_false, ite_true, ite_false, reduceIte, reduceCtorEq, e18, e6]
    refine B_241_0 A.1.1 (l_rgcd A.1.1 64 _ _ (Or.inl (by omega)) (by omega) (by omega) ⟨_, rfl, A.1.1, ?_⟩)
    unfold aGrey at kk
    try simp (disch := omega) only [lit, tn_nI, z_inb, nI_add, pk_mul, z_le, z_nle, z_lt, z_nlt, z_ne, z_m1, pk_sub, xI_ss, xI_sd, xI_n, eq_self, true_and, and_true, and_self, not_true_eq_false, not_false_eq_true, false_implies, true_implies, implies_true, Classical.not_not, forall_const, true_or, or_true, false_or, or_false, false_and, and_false, if_true, if_false, ite_true, ite_false, reduceIte, reduceCtorEq, pk_div]
    refine ⟨fun z => ?_, fun z => ?_⟩
    · rw [if_pos (show y = 0 from z)] at kk; exact kk
    · rw [if_neg (show ¬ y = 0 from z)] at kk; exact kk
  | succ m ih =>
    intro w hm
    have e := A.2.2.2 w (by omega)
    have hlt := wsh_lt (w := w) A.1.2.2.2 A.2.2.1
    refine B_240_19 A.1.1 ?_
    try simp (disch := omega) only [lit, tn_nI, z_inb, nI_add, pk_mul, z_le, z_nle, z_lt, z_nlt, z_ne, z_m1, pk_sub, xI_ss, xI_sd, xI_n, eq_self, true_and, and_true, and_self, not_true_eq_false, not_false_eq_true, false_implies, true_implies, implies_true, Classical.not_not, forall_const, true_or, or_true, false_or, or_false, false_and, and_false, if_true, if_false, ite_true, ite_false, reduceIte, reduceCtorEq, e18, e6, e]
    refine c_dgR A.1.1 (by omega) (by omega) ⟨A.1.1, ?_⟩
    try simp (disch := omega) only [lit, tn_nI, z_inb, nI_add, pk_mul, z_le, z_nle, z_lt, z_nlt, z_ne, z_m1, pk_sub, xI_ss, xI_sd, xI_n, eq_self, true_and, and_true, and_self, not_true_eq_false, not_false_eq_true, false_implies, true_implies, implies_true, Classical.not_not, forall_const, true_or, or_true, false_or, or_false, false_and, and_false, if_true, if_false, ite_true, ite_false, reduceIte, reduceCtorEq]
    exact ih (w + 1) (by omega)
theorem c_rGrey {x y : Int32} {K : Int32 → XH → Prop} (M : RM T l h) (hr : rq (xI h 108) r) (hro : rOk T r) (k : ∀ h1, Gx SV [58, 61] h h1 → K (opN x (tn (T 0 1)) (-1) (fun p => aGrey T r p y)) h1) : ClI 240 [.ref 69, .int x, .int y] h K := by
  have p6 := M.p6
  refine B_240_0 M.1 (c_rPage M (fun p hp e => ⟨M.1, ?_⟩) (fun q => ⟨M.1, ?_⟩))
  · subst e
    rw [opN_1 hp (by omega)] at k
    try simp (disch := omega) only [lit, tn_nI, z_inb, nI_add, pk_mul, z_le, z_nle, z_lt, z_nlt, z_ne, z_m1, pk_sub, xI_ss, xI_sd, xI_n, eq_self, true_and, and_true, and_self, not_true_eq_false, not_false_eq_true, false_implies, true_implies, implies_true, Classical.not_not, forall_const, true_or, or_true, false_or, or_false, false_and, and_false, if_true, if_false, ite_true, ite_false, reduceIte, reduceCtorEq]
    exact c_fillR M hr hro (fun h1 g A => l_rsum A (by omega) ⟨_, rfl, k h1 g⟩ (wN T) 0 (by omega))
  · rw [opN_0 q] at k
    try simp (disch := omega) only [lit, tn_nI, z_inb, nI_add, pk_mul, z_le, z_nle, z_lt, z_nlt, z_ne, z_m1, pk_sub, xI_ss, xI_sd, xI_n, eq_self, true_and, and_true, and_self, not_true_eq_false, not_false_eq_true, false_implies, true_implies, implies_true, Classical.not_not, forall_const, true_or, or_true, false_or, or_false, false_and, and_false, if_true, if_false, ite_true, ite_false, reduceIte, reduceCtorEq]
    exact ⟨_, rfl, k h Gx.rf⟩
theorem l_counts {f : Nat} (M : RM T l h) (hf : f < tn (T 0 0)) (kk : Q (.int (nI (prd (mo T) f))) h) : ∀ (m g : Nat), g + m = f → Ev 243 4 [.ref 69, .int (nI f), .int (nI (prd (mo T) g)), .int (nI g)] [] h Q := by
  have l2 := M.l2
  have f8 := M.f8
  have e18 := M.2.1
  intro m
  induction m with
  | zero =>
    intro g hm
    refine B_243_4 M.1 ?_
    try simp (disch := omega) only [lit, tn_nI, z_inb, nI_add, pk_mul, z_le, z_nle, z_lt, z_nlt, z_ne, z_m1, pk_sub, xI_ss, xI_sd, xI_n, eq_self, true_and, and_true, and_self, not_true_eq_false, not_false_eq_true, false_implies, true_implies, implies_true, Classical.not_not, forall_const, true_or, or_true, false_or, or_false, false_and, and_false, if_true, if_false, ite_true, ite_false, reduceIte, reduceCtorEq]
    rw [show g = f by omega]
    exact kk
  | succ m ih =>
    intro g hm
    obtain ⟨e2, m1, m3⟩ := M.mo (f := g) (by omega)
    refine B_243_4 M.1 ?_
    try simp (disch := omega) only [lit, tn_nI, z_inb, nI_add, pk_mul, z_le, z_nle, z_lt, z_nlt, z_ne, z_m1, pk_sub, xI_ss, xI_sd, xI_n, eq_self, true_and, and_true, and_self, not_true_eq_false, not_false_eq_true, false_implies, true_implies, implies_true, Classical.not_not, forall_const, true_or, or_true, false_or, or_false, false_and, and_false, if_true, if_false, ite_true, ite_false, reduceIte, reduceCtorEq, e18, e2]
    exact ih (g + 1) (by omega)
theorem c_counts {f : Nat} {K : Int32 → XH → Prop} (M : RM T l h) (hf : f < tn (T 0 0)) (k : K (nI (prd (mo T) f)) h) : ClI 243 [.ref 69, .int (nI f)] h K :=
  B_243_0 M.1 (l_counts M hf ⟨_, rfl, k⟩ f 0 (by omega))
theorem l_rwt {f : Nat} (A : RF T l r h) (hp : p < 6) (hf : f < tn (T 0 0)) (kk : Q (.int (nI (cnt (aWt T r p f) (wN T)))) h) : ∀ (m w : Nat), w + m = wN T → Ev 242 27 [.ref 69, .int (nI p), .int (nI f), .int (nI (cnt (aWt T r p f) w)), .int (nI w), .null, .null] [] h Q := by
  obtain ⟨e6, W2⟩ := A.1.wn
  have e18 := A.1.2.1
  have l2 := A.1.l2
  have f8 := A.1.f8
  obtain ⟨e80, m1, m3⟩ := A.1.mo hf
  have hp2 := prd_le (T := T) (f := f) (by omega) A.1.2.2.2.w
  intro m
  induction m with
  | zero =>
    intro w hm
    refine B_242_27 A.1.1 ?_
    try simp (disch := omega) only [lit, tn_nI, z_inb, nI_add, pk_mul, z_le, z_nle, z_lt, z_nlt, z_ne, z_m1, pk_sub, xI_ss, xI_sd, xI_n, eq_self, true_and, and_true, and_self, not_true_eq_false, not_false_eq_true, false_implies, true_implies, implies_true, Classical.not_not, forall_const, true_or, or_true, false_or, or_false, false_and, and_false, if_true, if_false, ite_true, ite_false, reduceIte, reduceCtorEq, e18, e6]
    rw [show w = wN T by omega]
    exact kk
  | succ m ih =>
    intro w hm
    obtain ⟨ho, hle⟩ := oth_lt hf (show w < wN T by omega)
    have e1 := A.2.2.2 w (by omega)
    have e2 := A.2.2.2 (oth T w f) ho
    have hlt1 := wsh_lt (w := w) A.1.2.2.2 A.2.2.1
    have hlt2 := wsh_lt (w := oth T w f) A.1.2.2.2 A.2.2.1
    have hd1 := dg_le (s := wsh T r w) (p := p)
    have hd2 := dg_le (s := wsh T r (oth T w f)) (p := p)
    have hfi : fIn (mo T) w f ≤ mo T f := fIn_lt
    have nx := ih (w + 1) (by omega)
    have eb : cnt (aWt T r p f) (w + 1) = if aWt T r p f w then cnt (aWt T r p f) w + 1 else cnt (aWt T r p f) w := rfl
    have fin : ∀ v u, v = nI (dg (wsh T r w) p) → u = nI (dg (wsh T r (oth T w f)) p) → (v = u → Ev 242 27 [.ref 69, .int (nI p), .int (nI f), .int (nI (cnt (aWt T r p f) w)), .int (nI (w + 1)), .null, .null] [] h Q) ∧ (¬ v = u → Ev 242 27 [.ref 69, .int (nI p), .int (nI f), .int (nI (cnt (aWt T r p f) w + 1)), .int (nI (w + 1)), .null, .null] [] h Q) := by
      intro v u ev eu
      subst ev
      subst eu
      refine ⟨fun z => ?_, fun z => ?_⟩
      · have z := (nI_eq (by omega) (by omega)).mp z
        rw [eb, if_neg (by unfold aWt; simp [z])] at nx
        exact nx
      · have z : ¬ dg (wsh T r w) p = dg (wsh T r (oth T w f)) p := fun q => z (by rw [q])
        rw [eb, if_pos (by unfold aWt; simp [z])] at nx
        exact nx
    refine B_242_27 A.1.1 ?_
    try simp (disch := omega) only [lit, tn_nI, z_inb, nI_add, pk_mul, z_le, z_nle, z_lt, z_nlt, z_ne, z_m1, pk_sub, xI_ss, xI_sd, xI_n, eq_self, true_and, and_true, and_self, not_true_eq_false, not_false_eq_true, false_implies, true_implies, implies_true, Classical.not_not, forall_const, true_or, or_true, false_or, or_false, false_and, and_false, if_true, if_false, ite_true, ite_false, reduceIte, reduceCtorEq, e18, e6]
    refine c_fIn A.1 hf (by omega) ⟨A.1.1, ?_⟩
    by_cases q : fIn (mo T) w f = mo T f
    · have eo : oth T w f = w - mo T f * prd (mo T) f := if_pos q
      have hle2 := hle q
      rw [eo] at e2 hlt2 fin ho
      try simp (disch := omega) only [lit, tn_nI, z_inb, nI_add, pk_mul, z_le, z_nle, z_lt, z_nlt, z_ne, z_m1, pk_sub, xI_ss, xI_sd, xI_n, eq_self, true_and, and_true, and_self, not_true_eq_false, not_false_eq_true, false_implies, true_implies, implies_true, Classical.not_not, forall_const, true_or, or_true, false_or, or_false, false_and, and_false, if_true, if_false, ite_true, ite_false, reduceIte, reduceCtorEq, e80, q]
      refine c_counts A.1 hf ⟨A.1.1, ?_⟩
      try simp (disch := omega) only [lit, tn_nI, z_inb, nI_add, pk_mul, z_le, z_nle, z_lt, z_nlt, z_ne, z_m1, pk_sub, xI_ss, xI_sd, xI_n, eq_self, true_and, and_true, and_self, not_true_eq_false, not_false_eq_true, false_implies, true_implies, implies_true, Classical.not_not, forall_const, true_or, or_true, false_or, or_false, false_and, and_false, if_true, if_false, ite_true, ite_false, reduceIte, reduceCtorEq, e1]
      refine c_dgR A.1.1 (by omega) (by omega) ⟨A.1.1, ?_⟩
      try simp (disch := omega) only [lit, tn_nI, z_inb, nI_add, pk_mul, z_le, z_nle, z_lt, z_nlt, z_ne, z_m1, pk_sub, xI_ss, xI_sd, xI_n, eq_self, true_and, and_true, and_self, not_true_eq_false, not_false_eq_true, false_implies, true_implies, implies_true, Classical.not_not, forall_const, true_or, or_true, false_or, or_false, false_and, and_false, if_true, if_false, ite_true, ite_false, reduceIte, reduceCtorEq, e2]
      refine c_dgR A.1.1 (by omega) (by omega) ⟨A.1.1, ?_⟩
      try simp (disch := omega) only [lit, tn_nI, z_inb, nI_add, pk_mul, z_le, z_nle, z_lt, z_nlt, z_ne, z_m1, pk_sub, xI_ss, xI_sd, xI_n, eq_self, true_and, and_true, and_self, not_true_eq_false, not_false_eq_true, false_implies, true_implies, implies_true, Classical.not_not, forall_const, true_or, or_true, false_or, or_false, false_and, and_false, if_true, if_false, ite_true, ite_false, reduceIte, reduceCtorEq]
      exact fin _ _ rfl rfl
    · have eo : oth T w f = w + prd (mo T) f := if_neg q
      rw [eo] at e2 hlt2 fin ho
      try simp (disch := omega) only [lit, tn_nI, z_inb, nI_add, pk_mul, z_le, z_nle, z_lt, z_nlt, z_ne, z_m1, pk_sub, xI_ss, xI_sd, xI_n, eq_self, true_and, and_true, and_self, not_true_eq_false, not_false_eq_true, false_implies, true_implies, implies_true, Classical.not_not, forall_const, true_or, or_true, false_or, or_false, false_and, and_false, if_true, if_false, ite_true, ite_false, reduceIte, reduceCtorEq, e80]
      refine c_counts A.1 hf ⟨A.1.1, ?_⟩
      try simp (disch := omega) only [lit, tn_nI, z_inb, nI_add, pk_mul, z_le, z_nle, z_lt, z_nlt, z_ne, z_m1, pk_sub, xI_ss, xI_sd, xI_n, eq_self, true_and, and_true, and_self, not_true_eq_false, not_false_eq_true, false_implies, true_implies, implies_true, Classical.not_not, forall_const, true_or, or_true, false_or, or_false, false_and, and_false, if_true, if_false, ite_true, ite_false, reduceIte, reduceCtorEq, e1]
      refine c_dgR A.1.1 (by omega) (by omega) ⟨A.1.1, ?_⟩
      try simp (disch := omega) only [lit, tn_nI, z_inb, nI_add, pk_mul, z_le, z_nle, z_lt, z_nlt, z_ne, z_m1, pk_sub, xI_ss, xI_sd, xI_n, eq_self, true_and, and_true, and_self, not_true_eq_false, not_false_eq_true, false_implies, true_implies, implies_true, Classical.not_not, forall_const, true_or, or_true, false_or, or_false, false_and, and_false, if_true, if_false, ite_true, ite_false, reduceIte, reduceCtorEq, e2]
      refine c_dgR A.1.1 (by omega) (by omega) ⟨A.1.1, ?_⟩
      try simp (disch := omega) only [lit, tn_nI, z_inb, nI_add, pk_mul, z_le, z_nle, z_lt, z_nlt, z_ne, z_m1, pk_sub, xI_ss, xI_sd, xI_n, eq_self, true_and, and_true, and_self, not_true_eq_false, not_false_eq_true, false_implies, true_implies, implies_true, Classical.not_not, forall_const, true_or, or_true, false_or, or_false, false_and, and_false, if_true, if_false, ite_true, ite_false, reduceIte, reduceCtorEq]
      exact fin _ _ rfl rfl
theorem c_rWeight {x y : Int32} {K : Int32 → XH → Prop} (M : RM T l h) (hr : rq (xI h 108) r) (hro : rOk T r) (k : ∀ h1, Gx SV [58, 61] h h1 → K (opN x (tn (T 0 1)) (-1) (fun p => opN y (tn (T 0 0)) (-1) (fun f => nI (cnt (aWt T r p f) (wN T))))) h1) : ClI 242 [.ref 69, .int x, .int y] h K := by
  have p6 := M.p6
  have f8 := M.f8
  refine B_242_0 M.1 (c_rPage M (fun p hp e => ⟨M.1, ?_⟩) (fun q => ⟨M.1, ?_⟩))
  · subst e
    rw [opN_1 hp (by omega)] at k
    try simp (disch := omega) only [lit, tn_nI, z_inb, nI_add, pk_mul, z_le, z_nle, z_lt, z_nlt, z_ne, z_m1, pk_sub, xI_ss, xI_sd, xI_n, eq_self, true_and, and_true, and_self, not_true_eq_false, not_false_eq_true, false_implies, true_implies, implies_true, Classical.not_not, forall_const, true_or, or_true, false_or, or_false, false_and, and_false, if_true, if_false, ite_true, ite_false, reduceIte, reduceCtorEq]
    refine c_rFact M (fun f hf e => ⟨M.1, ?_⟩) (fun q => ⟨M.1, ?_⟩)
    · subst e
      rw [opN_1 hf (by omega)] at k
      try simp (disch := omega) only [lit, tn_nI, z_inb, nI_add, pk_mul, z_le, z_nle, z_lt, z_nlt, z_ne, z_m1, pk_sub, xI_ss, xI_sd, xI_n, eq_self, true_and, and_true, and_self, not_true_eq_false, not_false_eq_true, false_implies, true_implies, implies_true, Classical.not_not, forall_const, true_or, or_true, false_or, or_false, false_and, and_false, if_true, if_false, ite_true, ite_false, reduceIte, reduceCtorEq]
      exact c_fillR M hr hro (fun h1 g A => l_rwt A (by omega) hf ⟨_, rfl, k h1 g⟩ (wN T) 0 (by omega))
    · rw [opN_0 q] at k
      try simp (disch := omega) only [lit, tn_nI, z_inb, nI_add, pk_mul, z_le, z_nle, z_lt, z_nlt, z_ne, z_m1, pk_sub, xI_ss, xI_sd, xI_n, eq_self, true_and, and_true, and_self, not_true_eq_false, not_false_eq_true, false_implies, true_implies, implies_true, Classical.not_not, forall_const, true_or, or_true, false_or, or_false, false_and, and_false, if_true, if_false, ite_true, ite_false, reduceIte, reduceCtorEq]
      exact ⟨_, rfl, k h Gx.rf⟩
  · rw [opN_0 q] at k
    try simp (disch := omega) only [lit, tn_nI, z_inb, nI_add, pk_mul, z_le, z_nle, z_lt, z_nlt, z_ne, z_m1, pk_sub, xI_ss, xI_sd, xI_n, eq_self, true_and, and_true, and_self, not_true_eq_false, not_false_eq_true, false_implies, true_implies, implies_true, Classical.not_not, forall_const, true_or, or_true, false_or, or_false, false_and, and_false, if_true, if_false, ite_true, ite_false, reduceIte, reduceCtorEq]
    exact ⟨_, rfl, k h Gx.rf⟩
end RW2

/-! THE SIMPLE CALLS: spec, and the class -/
/-- the first claim from c on, of k, that is not true (b: that has no sense) -/
def fC (T : Nat → Nat → Int32) (r : Nat → Int32) (p : Nat) (b : Bool) : Nat → Nat → Int32
  | 0, _ => -2
  | k + 1, c => if (if b = true then ck T r p c = nI 2 else ¬ ck T r p c = nI 1) then nI c else fC T r p b k (c + 1)
def oFact (T : Nat → Nat → Int32) (r : Nat → Int32) (x : Int32) : Int32 := opN x (tn (T 0 0)) (-1) (fun f => r f)
def oPage (T : Nat → Nat → Int32) (r : Nat → Int32) (x y : Int32) : Int32 := opN x (tn (T 0 1)) (-1) (fun p => if y = 0 then r (8 + p) else if y = 1 then (r 16 >>> (nI p &&& 31)) &&& 1 else if y = 2 then tc T r p (tn (T 6 p)) else if y = 3 then T 6 p else if y = 4 then fC T r p false (tn (T 6 p)) 0 else if y = 5 then fC T r p true (tn (T 6 p)) 0 else if y = 6 then (r 15 >>> (nI p &&& 31)) &&& 1 else -1)
def oSett (r : Nat → Int32) (x : Int32) : Int32 := opN x 3 (-1) (fun w => r (17 + w))
def oWorld (T : Nat → Nat → Int32) (r : Nat → Int32) (x : Int32) : Int32 := if x = 0 then nI (wNow T r) else if x = 1 then T 0 6 else -1
def blkB (T : Nat → Nat → Int32) (r : Nat → Int32) : Int32 := bor (fun p => if r (8 + p) = 4 then bt p else 0) (tn (T 0 1))
/-- how many of three -/
def hN (hb : Nat → Bool) : Nat := (if hb 0 then 1 else 0) + (if hb 1 then 1 else 0) + (if hb 2 then 1 else 0)
def hM (hb : Nat → Bool) : Nat := (if hb 0 then 1 else 0) + (if hb 1 then 2 else 0) + (if hb 2 then 4 else 0)
def oCount (T : Nat → Nat → Int32) (r : Nat → Int32) (tl n sc : Nat) (hb : Nat → Bool) (x : Int32) : Int32 := if x = 0 then T 0 0 else if x = 1 then T 0 1 else if x = 2 then r 14 else if x = 3 then T 0 2 else if x = 4 then blkB T r else if x = 5 then r 16 else if x = 6 then r 15 else if x = 7 then nI tl else if x = 8 then nI n else if x = 9 then nI sc else if x = 10 then nI (hN hb) else if x = 11 then T 0 4 else if x = 12 then T 0 5 else -1
/-- the class's slots, the reference's -/
def HC (hb : Nat → Bool) (hf : Nat → Nat → Int32) (h : XH) : Prop := xI h 4 10 = nI (hM hb) ∧ ∀ s, s < 3 → hb s = true → ∀ i, i < 20 → xI h 42 (20 * s + i) = hf s i
def HR (hb : Nat → Bool) (hf : Nat → Nat → Int32) (h : XH) : Prop := ∀ s, s < 3 → xI h 122 s = (if hb s = true then nI 1 else nI 0) ∧ (hb s = true → ∀ i, i < 20 → xI h 123 (20 * s + i) = sw (hf s) i)
def upS (hb : Nat → Bool) (s : Nat) : Nat → Bool := fun j => if j = s then true else hb j
def upR (hf : Nat → Nat → Int32) (s : Nat) (r : Nat → Int32) : Nat → Nat → Int32 := fun j => if j = s then r else hf j
theorem hM_lt {hb : Nat → Bool} : hM hb < 64 := by unfold hM; split <;> split <;> split <;> omega
theorem hM_bc {hb : Nat → Bool} : bc (hM hb) = hN hb := by
  unfold hM hN
  cases hb 0 <;> cases hb 1 <;> cases hb 2 <;> decide
theorem hM_up {hb : Nat → Bool} {s : Nat} (hs : s < 3) : nI (hM hb) ||| (1 <<< (nI s &&& 31)) = nI (hM (upS hb s)) := by
  unfold hM upS
  rcases (show s = 0 ∨ s = 1 ∨ s = 2 by omega) with e | e | e <;> subst e <;> simp only [if_true, ite_true] <;> cases hb 0 <;> cases hb 1 <;> cases hb 2 <;> decide
theorem hM_get {hb : Nat → Bool} {s : Nat} (hs : s < 3) : (nI (hM hb) >>> (nI s &&& 31)) &&& 1 = 0 ↔ hb s = false := by
  unfold hM
  rcases (show s = 0 ∨ s = 1 ∨ s = 2 by omega) with e | e | e <;> subst e <;> cases hb 0 <;> cases hb 1 <;> cases hb 2 <;> decide
theorem ck_eq {T : Nat → Nat → Int32} {r s : Nat → Int32} (hc : cvT T) (he : Eq16 r s) (p c : Nat) : ck T r p c = ck T s p c := by
  unfold ck
  rw [rnT_eq hc he]
theorem fC_eq {T : Nat → Nat → Int32} {r s : Nat → Int32} {p : Nat} {b : Bool} (hc : cvT T) (he : Eq16 r s) : ∀ k c, fC T r p b k c = fC T s p b k c := by
  intro k
  induction k with
  | zero => intro c; rfl
  | succ k ih => intro c; unfold fC; rw [ck_eq hc he, ih]
section CSI
variable {T : Nat → Nat → Int32} {c : Nat} {h h0 : XH} {r : Nat → Int32} {Q : Value → XH → Prop}
theorem c_cFactO {x : Int32} {K : Int32 → XH → Prop} (M : CM T c h) (hr : EqR (xI h 39) r) (k : K (oFact T r x) h) : ClI 69 [.ref 4, .int x] h K := by
  have f8 := M.f8
  unfold oFact at k
  refine B_69_0 M.1 (c_cFact M (fun j hj e => ⟨M.1, ?_⟩) (fun q => ⟨M.1, ?_⟩))
  · subst e
    rw [opN_1 hj (by omega)] at k
    have e1 := hr j (by omega)
    try simp (disch := omega) only [lit, tn_nI, z_inb, nI_add, pk_mul, z_le, z_nle, z_lt, z_nlt, z_ne, z_m1, pk_sub, xI_ss, xI_sd, xI_n, eq_self, true_and, and_true, and_self, not_true_eq_false, not_false_eq_true, false_implies, true_implies, implies_true, Classical.not_not, forall_const, true_or, or_true, false_or, or_false, false_and, and_false, if_true, if_false, ite_true, ite_false, reduceIte, reduceCtorEq, e1]
    exact ⟨_, rfl, k⟩
  · rw [opN_0 q] at k
    try simp (disch := omega) only [lit, tn_nI, z_inb, nI_add, pk_mul, z_le, z_nle, z_lt, z_nlt, z_ne, z_m1, pk_sub, xI_ss, xI_sd, xI_n, eq_self, true_and, and_true, and_self, not_true_eq_false, not_false_eq_true, false_implies, true_implies, implies_true, Classical.not_not, forall_const, true_or, or_true, false_or, or_false, false_and, and_false, if_true, if_false, ite_true, ite_false, reduceIte, reduceCtorEq]
    exact ⟨_, rfl, k⟩
theorem l_fC {p : Nat} {b : Bool} {x3 : Int32} (hb : x3 = if b = true then 1 else 0) (M : CM T c h0) (hp : p < tn (T 0 1)) (kk : ∀ h1, Fx [34, 35] h0 h1 → Q (.int (fC T (xI h0 39) p b (tn (T 6 p)) 0)) h1) : ∀ (k i : Nat) (h : XH), i + k = tn (T 6 p) → Fx [34, 35] h0 h → fC T (xI h0 39) p b (tn (T 6 p)) 0 = fC T (xI h0 39) p b k i → Ev 75 3 [.ref 34, .int (nI p), .ref 39, .int x3, .int (nI i), .null] [] h Q := by
  have p6 := M.p6
  obtain ⟨c1, c2⟩ := M.2.2.2.1.1.2.2 p (by omega)
  intro k
  induction k with
  | zero =>
    intro i h hk f e
    have M' := M.fx f (by decide)
    have e6 : xI h (xR h 34 0 + 6) p = nI (tn (T 6 p)) := by rw [M'.2.1, M'.t (by decide), ← c1]
    refine B_75_3 M'.1 (ar_39 M'.1) ?_
    try simp (disch := omega) only [lit, tn_nI, z_inb, nI_add, pk_mul, z_le, z_nle, z_lt, z_nlt, z_ne, z_m1, pk_sub, xI_ss, xI_sd, xI_n, eq_self, true_and, and_true, and_self, not_true_eq_false, not_false_eq_true, false_implies, true_implies, implies_true, Classical.not_not, forall_const, true_or, or_true, false_or, or_false, false_and, and_false, if_true, if_false, ite_true, ite_false, reduceIte, reduceCtorEq, e6]
    have kk := kk h f
    rw [e] at kk
    exact kk
  | succ k ih =>
    intro i h hk f e
    have M' := M.fx f (by decide)
    have e6 : xI h (xR h 34 0 + 6) p = nI (tn (T 6 p)) := by rw [M'.2.1, M'.t (by decide), ← c1]
    have e8 : xI h (xR h 34 0 + 8) (p * 6 + i) = T 8 (p * 6 + i) := by rw [M'.2.1, M'.t (by decide)]
    have e39 : xI h 39 = xI h0 39 := f.at (by decide)
    have eT : tx h = T := M'.2.2.1
    refine B_75_3 M'.1 (ar_39 M'.1) ?_
    try simp (disch := omega) only [lit, tn_nI, z_inb, nI_add, pk_mul, z_le, z_nle, z_lt, z_nlt, z_ne, z_m1, pk_sub, xI_ss, xI_sd, xI_n, eq_self, true_and, and_true, and_self, not_true_eq_false, not_false_eq_true, false_implies, true_implies, implies_true, Classical.not_not, forall_const, true_or, or_true, false_or, or_false, false_and, and_false, if_true, if_false, ite_true, ite_false, reduceIte, reduceCtorEq, e6, e8]
    refine c_run M'.1 (ar_39 M'.1) (by decide) (cd_T (by rw [eT]; exact M.2.2.2.1.1.1)) (fun h1 f1 => ?_)
    rw [rnA_T, eT, e39]
    have f2 : Fx [34, 35] h0 h1 := f.tr f1
    have M1 := M.fx f2 (by decide)
    have e2 : fC T (xI h0 39) p b (k + 1) i = if (if b = true then ck T (xI h0 39) p i = nI 2 else ¬ ck T (xI h0 39) p i = nI 1) then nI i else fC T (xI h0 39) p b k (i + 1) := rfl
    have stop : (if b = true then ck T (xI h0 39) p i = nI 2 else ¬ ck T (xI h0 39) p i = nI 1) → Q (.int (nI i)) h1 := fun q => by
      have kk := kk h1 f2
      rw [e, e2, if_pos q] at kk
      exact kk
    have go : (¬ if b = true then ck T (xI h0 39) p i = nI 2 else ¬ ck T (xI h0 39) p i = nI 1) → Ev 75 3 [.ref 34, .int (nI p), .ref 39, .int x3, .int (nI (i + 1)), .null] [] h1 Q := fun q => by
      rw [e2, if_neg q] at e
      exact ih (i + 1) h1 (by omega) f2 e
    refine ⟨fun z => ?_, fun v z y => ?_⟩
    · have ec : ck T (xI h0 39) p i = nI 2 := by unfold ck; rw [z]; rfl
      refine ⟨M1.1, ar_39 M1.1, ?_⟩
      try simp (disch := omega) only [lit, tn_nI, z_inb, nI_add, pk_mul, z_le, z_nle, z_lt, z_nlt, z_ne, z_m1, pk_sub, xI_ss, xI_sd, xI_n, eq_self, true_and, and_true, and_self, not_true_eq_false, not_false_eq_true, false_implies, true_implies, implies_true, Classical.not_not, forall_const, true_or, or_true, false_or, or_false, false_and, and_false, if_true, if_false, ite_true, ite_false, reduceIte, reduceCtorEq]
      refine stop ?_
      rw [ec]
      cases b
      · exact fun q => absurd q (by decide)
      · exact rfl
    · have ec : ck T (xI h0 39) p i = if v = 0 then 0 else 1 := by unfold ck; rw [z]
      refine ⟨M1.1, ar_39 M1.1, ?_⟩
      rw [y]
      cases b
      · have hb : x3 = nI 0 := hb
        rw [hb]
        try simp (disch := omega) only [lit, tn_nI, z_inb, nI_add, pk_mul, z_le, z_nle, z_lt, z_nlt, z_ne, z_m1, pk_sub, xI_ss, xI_sd, xI_n, eq_self, true_and, and_true, and_self, not_true_eq_false, not_false_eq_true, false_implies, true_implies, implies_true, Classical.not_not, forall_const, true_or, or_true, false_or, or_false, false_and, and_false, if_true, if_false, ite_true, ite_false, reduceIte, reduceCtorEq]
        refine ⟨fun w => ?_, fun w => ?_⟩
        · rw [← hb]
          refine go (fun q => q ?_)
          rw [ec, if_neg (show ¬ v = 0 from w)]
          rfl
        · refine stop (fun q => ?_)
          rw [ec, if_pos (show v = 0 from w)] at q
          exact absurd q (by decide)
      · have hb : x3 = nI 1 := hb
        rw [hb]
        try simp (disch := omega) only [lit, tn_nI, z_inb, nI_add, pk_mul, z_le, z_nle, z_lt, z_nlt, z_ne, z_m1, pk_sub, xI_ss, xI_sd, xI_n, eq_self, true_and, and_true, and_self, not_true_eq_false, not_false_eq_true, false_implies, true_implies, implies_true, Classical.not_not, forall_const, true_or, or_true, false_or, or_false, false_and, and_false, if_true, if_false, ite_true, ite_false, reduceIte, reduceCtorEq]
        rw [← hb]
        refine go (fun q => ?_)
        have q : ck T (xI h0 39) p i = nI 2 := q
        rw [ec] at q
        by_cases w : v = 0
        · rw [if_pos w] at q; exact absurd q (by decide)
        · rw [if_neg w] at q; exact absurd q (by decide)
theorem c_cPageO {x y : Int32} {K : Int32 → XH → Prop} (M : CM T c h) (hr : EqR (xI h 39) r) (k : ∀ h1, Fx [34, 35] h h1 → K (oPage T r x y) h1) : ClI 71 [.ref 4, .int x, .int y] h K := by
  have p6 := M.p6
  unfold oPage at k
  refine B_71_0 M.1 (c_cPage M (fun p hp e => ⟨M.1, ?_⟩) (fun q => ⟨M.1, ?_⟩))
  · subst e
    rw [opN_1 hp (by omega)] at k
    have e8 := hr (8 + p) (by omega)
    have e16 := hr 16 (by omega)
    have e15 := hr 15 (by omega)
    have eT : tx h = T := M.2.2.1
    have e6 : xI h (xR h 34 0 + 6) p = T 6 p := by rw [M.2.1, M.t (by decide)]
    refine ⟨fun _ => ⟨fun z => ?_, fun z0 => ⟨fun z => ?_, fun z1 => ⟨fun z => ?_, fun z2 => ⟨fun z => ?_, fun z3 => ⟨fun z => ?_, fun z4 => ⟨fun z => ?_, fun z5 => ⟨fun z => ?_, fun z6 => ?_⟩⟩⟩⟩⟩⟩⟩, fun z => absurd (by decide : ¬ nI 1 = (0 : Int32)) z⟩
    · rw [if_pos z] at k
      try simp (disch := omega) only [lit, tn_nI, z_inb, nI_add, pk_mul, z_le, z_nle, z_lt, z_nlt, z_ne, z_m1, pk_sub, xI_ss, xI_sd, xI_n, eq_self, true_and, and_true, and_self, not_true_eq_false, not_false_eq_true, false_implies, true_implies, implies_true, Classical.not_not, forall_const, true_or, or_true, false_or, or_false, false_and, and_false, if_true, if_false, ite_true, ite_false, reduceIte, reduceCtorEq, e8]
      exact ⟨_, rfl, k h Fx.rf⟩
    · rw [if_neg z0, if_pos z] at k
      refine ⟨(inb (k := 16) (by decide) (by decide)), _, rfl, ?_⟩
      show K ((xI h 39 16 >>> (nI p &&& 31)) &&& 1) h
      rw [e16]
      exact k h Fx.rf
    · rw [if_neg z0, if_neg z1, if_pos z] at k
      refine c_trueClaims M.1 (ar_39 M.1) (by decide) (by rw [eT]; exact M.2.2.2.1.1) (by omega) (fun h1 f1 => ⟨f1.sh M.1 (by decide), _, rfl, ?_⟩)
      rw [eT, tc_eq M.2.2.2.cv hr.to]
      exact k h1 f1
    · rw [if_neg z0, if_neg z1, if_neg z2, if_pos z] at k
      rw [tn_nI (show p < 2 ^ 31 by omega), e6]
      exact ⟨inb (by omega) (by decide), _, rfl, k h Fx.rf⟩
    · rw [if_neg z0, if_neg z1, if_neg z2, if_neg z3, if_pos z] at k
      refine B_75_0 M.1 (ar_39 M.1) (l_fC (b := false) rfl M hp (fun h1 f1 => ⟨_, rfl, f1.sh M.1 (by decide), _, rfl, ?_⟩) (tn (T 6 p)) 0 h (by omega) Fx.rf rfl)
      rw [fC_eq M.2.2.2.cv hr.to]
      exact k h1 f1
    · rw [if_neg z0, if_neg z1, if_neg z2, if_neg z3, if_neg z4, if_pos z] at k
      refine B_75_0 M.1 (ar_39 M.1) (l_fC (b := true) rfl M hp (fun h1 f1 => ⟨_, rfl, f1.sh M.1 (by decide), _, rfl, ?_⟩) (tn (T 6 p)) 0 h (by omega) Fx.rf rfl)
      rw [fC_eq M.2.2.2.cv hr.to]
      exact k h1 f1
    · rw [if_neg z0, if_neg z1, if_neg z2, if_neg z3, if_neg z4, if_neg z5, if_pos z] at k
      refine ⟨(inb (k := 15) (by decide) (by decide)), _, rfl, ?_⟩
      show K ((xI h 39 15 >>> (nI p &&& 31)) &&& 1) h
      rw [e15]
      exact k h Fx.rf
    · rw [if_neg z0, if_neg z1, if_neg z2, if_neg z3, if_neg z4, if_neg z5, if_neg z6] at k
      exact ⟨_, rfl, k h Fx.rf⟩
  · rw [opN_0 q] at k
    try simp (disch := omega) only [lit, tn_nI, z_inb, nI_add, pk_mul, z_le, z_nle, z_lt, z_nlt, z_ne, z_m1, pk_sub, xI_ss, xI_sd, xI_n, eq_self, true_and, and_true, and_self, not_true_eq_false, not_false_eq_true, false_implies, true_implies, implies_true, Classical.not_not, forall_const, true_or, or_true, false_or, or_false, false_and, and_false, if_true, if_false, ite_true, ite_false, reduceIte, reduceCtorEq]
    exact ⟨_, rfl, k h Fx.rf⟩
theorem in_3 {x : Int32} {A : Prop} (h0 : x = nI 0 → A) (h1 : x = nI 1 → A) (h2 : x = nI 2 → A) (h3 : (x < 0 ∨ nI 3 ≤ x) → ¬ x = 0 → ¬ x = 1 → ¬ x = 2 → A) : A := by
  refine in_n (n := 3) (x := x) (by decide) (fun j hj q => ?_) (fun q => h3 q (fun e => ?_) (fun e => ?_) (fun e => ?_))
  · rcases (show j = 0 ∨ j = 1 ∨ j = 2 by omega) with e | e | e
    · rw [e] at q; exact h0 q
    · rw [e] at q; exact h1 q
    · rw [e] at q; exact h2 q
  · subst e; exact absurd q (by decide)
  · subst e; exact absurd q (by decide)
  · subst e; exact absurd q (by decide)
theorem c_cSett {x : Int32} {K : Int32 → XH → Prop} (hs : Sh h) (hr : EqR (xI h 39) r) (k : K (oSett r x) h) : ClI 76 [.ref 4, .int x] h K := by
  unfold oSett at k
  have e7 := hr 17 (by omega)
  have e8 := hr 18 (by omega)
  have e9 := hr 19 (by omega)
  refine B_76_0 hs ?_
  refine in_3 (x := x) (fun q => ?_) (fun q => ?_) (fun q => ?_) (fun q a b d => ?_)
  · subst q
    rw [opN_1 (by decide) (by decide)] at k
    try simp (disch := omega) only [lit, tn_nI, z_inb, nI_add, pk_mul, z_le, z_nle, z_lt, z_nlt, z_ne, z_m1, pk_sub, xI_ss, xI_sd, xI_n, eq_self, true_and, and_true, and_self, not_true_eq_false, not_false_eq_true, false_implies, true_implies, implies_true, Classical.not_not, forall_const, true_or, or_true, false_or, or_false, false_and, and_false, if_true, if_false, ite_true, ite_false, reduceIte, reduceCtorEq, e7]
    exact ⟨_, rfl, k⟩
  · subst q
    rw [opN_1 (by decide) (by decide)] at k
    try simp (disch := omega) only [lit, tn_nI, z_inb, nI_add, pk_mul, z_le, z_nle, z_lt, z_nlt, z_ne, z_m1, pk_sub, xI_ss, xI_sd, xI_n, eq_self, true_and, and_true, and_self, not_true_eq_false, not_false_eq_true, false_implies, true_implies, implies_true, Classical.not_not, forall_const, true_or, or_true, false_or, or_false, false_and, and_false, if_true, if_false, ite_true, ite_false, reduceIte, reduceCtorEq, e8]
    exact ⟨_, rfl, k⟩
  · subst q
    rw [opN_1 (by decide) (by decide)] at k
    try simp (disch := omega) only [lit, tn_nI, z_inb, nI_add, pk_mul, z_le, z_nle, z_lt, z_nlt, z_ne, z_m1, pk_sub, xI_ss, xI_sd, xI_n, eq_self, true_and, and_true, and_self, not_true_eq_false, not_false_eq_true, false_implies, true_implies, implies_true, Classical.not_not, forall_const, true_or, or_true, false_or, or_false, false_and, and_false, if_true, if_false, ite_true, ite_false, reduceIte, reduceCtorEq, e9]
    exact ⟨_, rfl, k⟩
  · rw [opN_0 q] at k
    exact ⟨fun z => absurd z a, fun _ => ⟨fun z => absurd z b, fun _ => ⟨fun z => absurd z d, fun _ => ⟨_, rfl, k⟩⟩⟩⟩
theorem c_cWorld {x : Int32} {K : Int32 → XH → Prop} (M : CM T c h) (hr : EqR (xI h 39) r) (hro : rOk T r) (k : K (oWorld T r x) h) : ClI 86 [.ref 4, .int x] h K := by
  unfold oWorld at k
  have e6 : xI h (xR h 34 0) 6 = T 0 6 := by rw [M.2.1, M.t0]
  refine B_86_0 M.1 ⟨fun z => ?_, fun z0 => ⟨fun z => ?_, fun z1 => ?_⟩⟩
  · rw [if_pos z] at k
    rw [M.2.1]
    exact c_wC M (ar_39 M.1) hr hro ⟨M.1, _, rfl, k⟩
  · rw [if_neg z0, if_pos z] at k
    rw [e6]
    exact ⟨_, rfl, k⟩
  · rw [if_neg z0, if_neg z1] at k
    exact ⟨_, rfl, k⟩
/-- what was guessed is forgotten: the row may be another -/
theorem c_forgetG {K : XH → Prop} (hs : Sh h) (k : ∀ h1, Fx [43, 49, 53] h h1 → xI h1 43 0 = nI 0 → xI h1 49 0 = nI 0 → xI h1 53 0 = -1 → K h1) : ClV 67 [.ref 4] h K :=
  B_67_0 hs ⟨rfl, k _ (((Fx.rf.set (by decide)).set (by decide)).set (by decide)) (by rw [xI_n (by decide), xI_n (by decide)]; exact xI_ss) (by rw [xI_n (by decide)]; exact xI_ss) xI_ss⟩
abbrev SD : List Nat := [34, 35, 36, 37, 38, 39, 40, 41, 43, 49, 53]
/-- a new row, the old one kept, guesses forgotten -/
def Nw (T : Nat → Nat → Int32) (c n : Nat) (f : Nat → Nat → Int32) (r' : Nat → Int32) (h h1 : XH) : Prop := Fx SD h h1 ∧ CM T c h1 ∧ EqR (xI h1 39) r' ∧ PC n f h1 ∧ xI h1 43 0 = nI 0 ∧ xI h1 49 0 = nI 0 ∧ xI h1 53 0 = -1
theorem l_cdays {n m : Nat} {f : Nat → Nat → Int32} (M : CM T c h0) (hn : n < 1000) (P : PC m f h0) (kk : ∀ h1, Nw T c m f (dN T (T 0 3) n r) h0 h1 → Q (.int (dN T (T 0 3) n r 14)) h1) : ∀ (k i : Nat) (h : XH), i + k = n → Fx [39, 34, 35, 36, 37, 38] h0 h → EqR (xI h 39) (dN T (T 0 3) i r) → Ev 77 29 [.ref 4, .int (nI n), .int (nI i)] [] h Q := by
  intro k
  induction k with
  | zero =>
    intro i h hk fx e
    have M' := M.fx fx (by decide)
    rw [show i = n by omega] at e
    refine B_77_29 M'.1 ?_
    try simp (disch := omega) only [lit, tn_nI, z_inb, nI_add, pk_mul, z_le, z_nle, z_lt, z_nlt, z_ne, z_m1, pk_sub, xI_ss, xI_sd, xI_n, eq_self, true_and, and_true, and_self, not_true_eq_false, not_false_eq_true, false_implies, true_implies, implies_true, Classical.not_not, forall_const, true_or, or_true, false_or, or_false, false_and, and_false, if_true, if_false, ite_true, ite_false, reduceIte, reduceCtorEq]
    refine c_forgetG M'.1 (fun h1 f1 e1 e2 e3 => ?_)
    have M1 := M'.fx f1 (by decide)
    have e39 : EqR (xI h1 39) (dN T (T 0 3) n r) := by rw [f1.at (by decide)]; exact e
    have e14 := e39 14 (by omega)
    refine ⟨M1.1, ?_⟩
    try simp (disch := omega) only [lit, tn_nI, z_inb, nI_add, pk_mul, z_le, z_nle, z_lt, z_nlt, z_ne, z_m1, pk_sub, xI_ss, xI_sd, xI_n, eq_self, true_and, and_true, and_self, not_true_eq_false, not_false_eq_true, false_implies, true_implies, implies_true, Classical.not_not, forall_const, true_or, or_true, false_or, or_false, false_and, and_false, if_true, if_false, ite_true, ite_false, reduceIte, reduceCtorEq, e14]
    refine kk h1 ⟨(fx.mono (by decide)).tr (f1.mono (by decide)), M1, e39, ?_, e1, e2, e3⟩
    obtain ⟨t, p1, p2, p3, p4, p5⟩ := P
    exact ⟨t, p1, p2, by rw [f1.at (by decide), fx.at (by decide)]; exact p3, by rw [f1.at (by decide), fx.at (by decide)]; exact p4, by rw [f1.at (by decide), fx.at (by decide)]; exact p5⟩
  | succ k ih =>
    intro i h hk fx e
    have M' := M.fx fx (by decide)
    have e3 : xI h (xR h 34 0) 3 = T 0 3 := by rw [M'.2.1, M'.t0]
    refine B_77_29 M'.1 ?_
    try simp (disch := omega) only [lit, tn_nI, z_inb, nI_add, pk_mul, z_le, z_nle, z_lt, z_nlt, z_ne, z_m1, pk_sub, xI_ss, xI_sd, xI_n, eq_self, true_and, and_true, and_self, not_true_eq_false, not_false_eq_true, false_implies, true_implies, implies_true, Classical.not_not, forall_const, true_or, or_true, false_or, or_false, false_and, and_false, if_true, if_false, ite_true, ite_false, reduceIte, reduceCtorEq, e3]
    refine c_dayC M' (ar_39 M'.1) (by decide) e (fun h1 f1 e1 => ⟨f1.sh M'.1 (by decide), ?_⟩)
    rw [← dN_s] at e1
    exact ih (i + 1) h1 (by omega) (fx.tr f1) e1
theorem c_cDays {x : Int32} {n : Nat} {f : Nat → Nat → Int32} {K : Int32 → XH → Prop} (M : CM T c h) (hr : EqR (xI h 39) r) (P : PC n f h) (kn : (x < 0 ∨ nI 101 ≤ x) → K (-1) h) (k0 : x = nI 0 → K (r 14) h) (k1 : ∀ m, 0 < m → m < 101 → x = nI m → ∀ h1, Nw T c (n50 n) (pus r f) (dN T (T 0 3) m r) h h1 → K (dN T (T 0 3) m r 14) h1) : ClI 77 [.ref 4, .int x] h K := by
  refine in_n (n := 101) (x := x) (by decide) (fun j hj q => ?_) (fun q => ?_)
  · subst q
    refine B_77_0 M.1 ?_
    by_cases j0 : j = 0
    · subst j0
      have e14 := hr 14 (by omega)
      try simp (disch := omega) only [lit, tn_nI, z_inb, nI_add, pk_mul, z_le, z_nle, z_lt, z_nlt, z_ne, z_m1, pk_sub, xI_ss, xI_sd, xI_n, eq_self, true_and, and_true, and_self, not_true_eq_false, not_false_eq_true, false_implies, true_implies, implies_true, Classical.not_not, forall_const, true_or, or_true, false_or, or_false, false_and, and_false, if_true, if_false, ite_true, ite_false, reduceIte, reduceCtorEq, e14]
      exact ⟨_, rfl, k0 rfl⟩
    · have jn : ¬ nI j < nI 0 := nI_nlt (by omega) (by omega)
      try simp (disch := omega) only [lit, tn_nI, z_inb, nI_add, pk_mul, z_le, z_nle, z_lt, z_nlt, z_ne, z_m1, pk_sub, xI_ss, xI_sd, xI_n, eq_self, true_and, and_true, and_self, not_true_eq_false, not_false_eq_true, false_implies, true_implies, implies_true, Classical.not_not, forall_const, true_or, or_true, false_or, or_false, false_and, and_false, if_true, if_false, ite_true, ite_false, reduceIte, reduceCtorEq]
      refine c_keep M.1 P hr (fun h1 f1 P1 => ⟨f1.sh M.1 (by decide), ?_⟩)
      have M1 := M.fx f1 (by decide)
      have hr1 : EqR (xI h1 39) r := by rw [f1.at (by decide)]; exact hr
      refine l_cdays M1 (by omega) P1 (fun h2 N2 => ⟨_, rfl, k1 j (by omega) hj rfl h2 ⟨(f1.mono (by decide)).tr N2.1, N2.2⟩⟩) j 0 h1 (by omega) Fx.rf hr1
  · refine B_77_0 M.1 ⟨fun z => ⟨_, rfl, kn q⟩, fun z => ⟨fun y => ?_, fun y => ⟨_, rfl, kn q⟩⟩⟩
    rcases q with q | q
    · exact absurd q z
    · exact absurd ((gt_n (n := 100) z (by decide)).mpr q) (Int32.not_lt.mpr y)
/-- a new row has settled -/
theorem c_settN {r' : Nat → Int32} {n : Nat} {f : Nat → Nat → Int32} {K : Int32 → XH → Prop} (M : CM T c h) (P : PC n f h) (hr : EqR (xI h 39) r') (k : ∀ h1, Nw T c n f (setS T r') h h1 → Q (.int (nI 1)) h1) : ClV 55 [.ref 34, .ref 39] h (fun h5 => Sh h5 ∧ (ClV 67 [.ref 4] h5 (fun h7 => Sh h7 ∧ (Q (.int 1) h7)))) := by
  refine c_setC M (ar_39 M.1) (by decide) hr (fun h1 f1 e1 => ⟨f1.sh M.1 (by decide), ?_⟩)
  have M1 := M.fx f1 (by decide)
  refine c_forgetG M1.1 (fun h2 f2 e3 e4 e5 => ?_)
  have M2 := M1.fx f2 (by decide)
  refine ⟨M2.1, k h2 ⟨(f1.mono (by decide)).tr (f2.mono (by decide)), M2, by rw [f2.at (by decide)]; exact e1, ?_, e3, e4, e5⟩⟩
  obtain ⟨t, p1, p2, p3, p4, p5⟩ := P
  exact ⟨t, p1, p2, by rw [f2.at (by decide), f1.at (by decide)]; exact p3, by rw [f2.at (by decide), f1.at (by decide)]; exact p4, by rw [f2.at (by decide), f1.at (by decide)]; exact p5⟩
def okSet (T : Nat → Nat → Int32) (r : Nat → Int32) (x v : Int32) : Prop := ∃ f m, f < tn (T 0 0) ∧ m ≤ tn (T 1 f) ∧ x = nI f ∧ v = nI m ∧ ¬ r f = nI m
theorem eqr_up {s : Nat → Int32} {j : Nat} {v : Int32} (h : EqR s r) : EqR (up s j v) (up r j v) := h.upd j v
theorem c_cSet {x v : Int32} {n : Nat} {f : Nat → Nat → Int32} {K : Int32 → XH → Prop} (M : CM T c h) (hr : EqR (xI h 39) r) (P : PC n f h) (k0 : ¬ okSet T r x v → K (nI 0) h) (k1 : okSet T r x v → ∀ h1, Nw T c (n50 n) (pus r f) (setS T (up r (tn x) v)) h h1 → K (nI 1) h1) : ClI 82 [.ref 4, .int x, .int v] h K := by
  have f8 := M.f8
  refine B_82_0 M.1 (c_cFact M (fun j hj e => ⟨M.1, ?_⟩) (fun q => ⟨M.1, ?_⟩))
  · subst e
    obtain ⟨e1, m1, m3⟩ := mo_n M.2.2.2.n hj
    have i1 : xI h (xR h 34 0 + 1) j = nI (mo T j) := by rw [M.2.1, M.t (by decide)]; exact e1
    have et : tn (T 1 j) = mo T j := rfl
    have e39 := hr j (by omega)
    rw [tn_nI (show j < 2 ^ 31 by omega)] at k1 ⊢
    rw [i1, e39]
    refine ⟨fun z => absurd z (by decide), fun _ => ⟨fun z => ⟨_, rfl, k0 ?_⟩, fun z => ⟨inb (by omega) (by decide), fun y => ⟨_, rfl, k0 ?_⟩, fun y => ⟨inb (by omega) (by decide), fun w => ?_, fun w => ⟨_, rfl, k0 ?_⟩⟩⟩⟩⟩
    · rintro ⟨f, m, a1, a2, a3, a4, a5⟩
      subst a4
      have := (mo_n M.2.2.2.n a1).2.2
      have a2 : m ≤ mo T f := a2
      exact nI_pos (by omega) z
    · rintro ⟨f, m, a1, a2, a3, a4, a5⟩
      have a3 := (nI_eq (by omega) (by omega)).mp a3
      subst a3
      subst a4
      have a2 : m ≤ mo T j := a2
      exact nI_nlt (by omega) (by omega) y
    · obtain ⟨m, hm, rfl⟩ := nI_of z
      have hle : m ≤ mo T j := by
        apply Classical.byContradiction
        intro q
        exact y (nI_lt (by omega) hm)
      have ok : okSet T r (nI j) (nI m) := ⟨j, m, hj, hle, rfl, rfl, fun q => w q.symm⟩
      refine c_keep M.1 P hr (fun h1 f1 P1 => ⟨f1.sh M.1 (by decide), inb (by omega) (by decide), ?_⟩)
      have f2 : Fx [39, 40, 41] h (xsI h1 39 j (nI m)) := (f1.mono (by decide)).set (by decide)
      have M2 := M.fx f2 (by decide)
      have P2 : PC (n50 n) (pus r f) (xsI h1 39 j (nI m)) := by
        obtain ⟨t, p1, p2, p3, p4, p5⟩ := P1
        exact ⟨t, p1, p2, by rw [xI_n (by decide)]; exact p3, by rw [xI_n (by decide)]; exact p4, by rw [xI_n (by decide)]; exact p5⟩
      refine c_settN (K := K) (Q := fun r h1 => ∃ w, r = Value.int w ∧ K w h1) M2 P2 (r' := up r j (nI m)) (by rw [xI_s, f1.at (by decide)]; exact eqr_up hr) (fun h3 N3 => ⟨_, rfl, k1 ok h3 ⟨(f2.mono (by decide)).tr N3.1, N3.2⟩⟩)
    · rintro ⟨f, m, a1, a2, a3, a4, a5⟩
      have a3 := (nI_eq (by omega) (by omega)).mp a3
      subst a3
      subst a4
      exact a5 (Classical.not_not.mp w).symm
  · refine ⟨fun _ => ⟨_, rfl, k0 ?_⟩, fun z => absurd rfl z⟩
    rintro ⟨f, m, a1, a2, a3, a4, a5⟩
    subst a3
    exact q.elim (nI_pos (by omega)) (nI_ge a1 (by omega))
def okWipe (T : Nat → Nat → Int32) (r : Nat → Int32) (x v : Int32) : Prop := ∃ p, p < tn (T 0 1) ∧ x = nI p ∧ ¬ (r 15 >>> (nI p &&& 31)) &&& 1 = v
theorem c_cWipe {x v : Int32} {n : Nat} {f : Nat → Nat → Int32} {K : Int32 → XH → Prop} (hv : v = 0 ∨ v = 1) (M : CM T c h) (hr : EqR (xI h 39) r) (P : PC n f h) (k0 : ¬ okWipe T r x v → K (nI 0) h) (k1 : okWipe T r x v → ∀ h1, Nw T c (n50 n) (pus r f) (setS T (up r 15 (r 15 ^^^ (1 <<< (x &&& 31))))) h h1 → K (nI 1) h1) : ClI 83 [.ref 4, .int x, .int v] h K := by
  have p6 := M.p6
  refine B_83_0 M.1 (c_cPage M (fun j hj e => ⟨M.1, ?_⟩) (fun q => ⟨M.1, ?_⟩))
  · subst e
    have e39 : xI h 39 (tn 15) = r 15 := hr 15 (by omega)
    rw [e39]
    have go : okWipe T r (nI j) v → ClV 78 [.ref 40, .ref 39] h (fun h3 => Sh h3 ∧ (InB 15 20 ∧ (InB 15 20 ∧ (ClV 55 [.ref 34, .ref 39] (xsI h3 39 (tn 15) ((xI h3 39 (tn 15)) ^^^ (1 <<< (nI j &&& 31)))) (fun h5 => Sh h5 ∧ (ClV 67 [.ref 4] h5 (fun h7 => Sh h7 ∧ (∃ w, Value.int 1 = Value.int w ∧ K w h7)))))))) := by
      intro ok
      refine c_keep M.1 P hr (fun h1 f1 P1 => ⟨f1.sh M.1 (by decide), (inb (k := 15) (by decide) (by decide)), (inb (k := 15) (by decide) (by decide)), ?_⟩)
      have e1 : xI h1 39 (tn 15) = r 15 := by rw [f1.at (by decide)]; exact e39
      rw [e1, show tn (15 : Int32) = 15 from rfl]
      have f2 : Fx [39, 40, 41] h (xsI h1 39 15 (r 15 ^^^ (1 <<< (nI j &&& 31)))) := (f1.mono (by decide)).set (by decide)
      have M2 := M.fx f2 (by decide)
      have P2 : PC (n50 n) (pus r f) (xsI h1 39 15 (r 15 ^^^ (1 <<< (nI j &&& 31)))) := by
        obtain ⟨t, p1, p2, p3, p4, p5⟩ := P1
        exact ⟨t, p1, p2, by rw [xI_n (by decide)]; exact p3, by rw [xI_n (by decide)]; exact p4, by rw [xI_n (by decide)]; exact p5⟩
      refine c_settN (K := K) (Q := fun r h1 => ∃ w, r = Value.int w ∧ K w h1) M2 P2 (r' := up r 15 (r 15 ^^^ (1 <<< (nI j &&& 31)))) (by rw [xI_s, f1.at (by decide)]; exact eqr_up hr) (fun h3 N3 => ⟨_, rfl, k1 ok h3 ⟨(f2.mono (by decide)).tr N3.1, N3.2⟩⟩)
    have no : (r 15 >>> (nI j &&& 31)) &&& 1 = v → ¬ okWipe T r (nI j) v := by
      rintro q ⟨p, a1, a2, a3⟩
      have a2 := (nI_eq (by omega) (by omega)).mp a2
      subst a2
      exact a3 q
    refine ⟨fun z => absurd z (by decide), fun _ => ⟨(inb (k := 15) (by decide) (by decide)), fun z => ⟨fun y => ?_, fun y => ⟨_, rfl, k0 (no ?_)⟩⟩, fun z => ⟨fun y => ?_, fun y => ⟨_, rfl, k0 (no ?_)⟩⟩⟩⟩
    · exact go ⟨j, hj, rfl, by rw [z]; exact y⟩
    · rw [z]; exact Classical.not_not.mp y
    · exact go ⟨j, hj, rfl, by rw [hv.resolve_left z]; exact y⟩
    · rw [hv.resolve_left z]; exact Classical.not_not.mp y
  · refine ⟨fun _ => ⟨_, rfl, k0 ?_⟩, fun z => absurd rfl z⟩
    rintro ⟨p, a1, a2, a3⟩
    subst a2
    exact q.elim (nI_pos (by omega)) (nI_ge a1 (by omega))
theorem c_cUndo {n : Nat} {f : Nat → Nat → Int32} {K : Int32 → XH → Prop} (M : CM T c h) (P : PC n f h) (k0 : n = 0 → K (nI 0) h) (k1 : ∀ m, n = m + 1 → ∀ h1, Nw T c m (fun k => f (k + 1)) (f 0) h h1 → K (nI 1) h1) : ClI 84 [.ref 4] h K := by
  refine B_84_0 M.1 (c_takeBack M.1 P (fun m hm h1 f1 e1 P1 => ⟨f1.sh M.1 (by decide), fun _ => ?_, fun z => absurd (by decide : ¬ nI 1 = (0 : Int32)) z⟩) (fun n0 => ⟨M.1, fun z => absurd rfl z, fun _ => ⟨_, rfl, k0 n0⟩⟩))
  have M1 := M.fx f1 (by decide)
  refine c_forgetG M1.1 (fun h2 f2 e3 e4 e5 => ?_)
  have M2 := M1.fx f2 (by decide)
  refine ⟨M2.1, _, rfl, k1 m hm h2 ⟨(f1.mono (by decide)).tr (f2.mono (by decide)), M2, by rw [f2.at (by decide)]; exact e1, ?_, e3, e4, e5⟩⟩
  obtain ⟨t, p1, p2, p3, p4, p5⟩ := P1
  exact ⟨t, p1, p2, by rw [f2.at (by decide)]; exact p3, by rw [f2.at (by decide)]; exact p4, by rw [f2.at (by decide)]; exact p5⟩
theorem c_cHold {x : Int32} {hb : Nat → Bool} {hf : Nat → Nat → Int32} {K : Int32 → XH → Prop} (hs : Sh h) (hr : EqR (xI h 39) r) (H : HC hb hf h) (k0 : (x < 0 ∨ nI 3 ≤ x) → K (nI 0) h) (k1 : ∀ s, s < 3 → x = nI s → ∀ h1, Fx [4, 42] h h1 → (∀ j, j ≠ 10 → xI h1 4 j = xI h 4 j) → HC (upS hb s) (upR hf s r) h1 → K (nI 1) h1) : ClI 154 [.ref 4, .int x] h K := by
  refine B_154_0 hs ?_
  refine in_n (n := 3) (x := x) (by decide) (fun s hs3 q => ?_) (fun q => ⟨fun _ => ⟨_, rfl, k0 q⟩, fun z => ⟨fun y => ?_, fun _ => ⟨_, rfl, k0 q⟩⟩⟩)
  · subst q
    have em : nI s * (20 : Int32) = nI (s * 20) := pk_mul _ _
    rw [em, tn_nI (show s * 20 < 2 ^ 31 by omega)]
    refine ⟨fun z => absurd z (nI_pos (by omega)), fun _ => ⟨fun _ => ⟨⟨by decide, by decide, nI_pos (by omega), by decide, by decide, by show s * 20 + 20 ≤ 60; omega⟩, fun h1 eh => ⟨_, rfl, ?_⟩⟩, fun z => absurd (nI_lt (a := s) (b := 3) hs3 (by decide)) z⟩⟩
    have e10 : xI (xsA h 42 (va_cpy (xI h 39) (xI h 42) (tn (0 : Int32)) (s * 20) (tn (20 : Int32)))) 4 10 = nI (hM hb) := H.1
    rw [e10, hM_up hs3] at eh
    subst eh
    refine k1 s hs3 rfl _ ((Fx.rf.setA (by decide)).set (by decide)) (fun j hj => by rw [xI_sd hj]; rfl) ⟨xI_ss, fun j hj hbj i hi => ?_⟩
    rw [xI_n (by decide), xI_A]
    show va_cpy (xI h 39) (xI h 42) 0 (s * 20) 20 (20 * j + i) = _
    unfold upR
    by_cases e : j = s
    · subst e
      rw [if_pos rfl, pk_cpy_in (by omega) (by omega), show 0 + (20 * j + i - j * 20) = i by omega]
      exact hr i hi
    · rw [if_neg e, cpy_out (by omega)]
      unfold upS at hbj
      rw [if_neg e] at hbj
      exact H.2 j hj hbj i hi
  · rcases q with q | q
    · exact absurd q z
    · exact absurd y (Int32.not_lt.mpr q)
theorem c_cRestore {x : Int32} {n : Nat} {f : Nat → Nat → Int32} {hb : Nat → Bool} {hf : Nat → Nat → Int32} {K : Int32 → XH → Prop} (M : CM T c h) (H : HC hb hf h) (k0 : (¬ ∃ s, s < 3 ∧ x = nI s ∧ hb s = true) → K (nI 0) h) (k1 : ∀ s, s < 3 → x = nI s → hb s = true → ∀ h1, Nw T c 0 f (hf s) h h1 → K (nI 1) h1) : ClI 155 [.ref 4, .int x] h K := by
  refine B_155_0 M.1 ?_
  refine in_n (n := 3) (x := x) (by decide) (fun s hs3 q => ?_) (fun q => ?_)
  · subst q
    have em : nI s * (20 : Int32) = nI (s * 20) := pk_mul _ _
    rw [em, tn_nI (show s * 20 < 2 ^ 31 by omega), H.1]
    refine ⟨fun z => absurd z (nI_pos (by omega)), fun _ => ⟨fun z => absurd z (nI_ge (a := s) (b := 3) hs3 (by decide)), fun _ => ⟨fun z => ?_, fun z => ⟨_, rfl, k0 ?_⟩⟩⟩⟩
    · have hbs : hb s = true := by
        cases e : hb s
        · exact absurd ((hM_get hs3).mpr e) z
        · rfl
      refine ⟨⟨by decide, nI_pos (by omega), by decide, by decide, by show s * 20 + 20 ≤ 60; omega, by decide⟩, ?_⟩
      have f1 : Fx [39] h (xsA h 39 (va_cpy (xI h 42) (xI h 39) (s * 20) (tn (0 : Int32)) (tn (20 : Int32)))) := Fx.rf.setA (by decide)
      have e1 : EqR (xI (xsA h 39 (va_cpy (xI h 42) (xI h 39) (s * 20) (tn (0 : Int32)) (tn (20 : Int32)))) 39) (hf s) := fun i hi => by
        rw [xI_A]
        show va_cpy (xI h 42) (xI h 39) (s * 20) 0 20 i = _
        rw [pk_cpy_in (by omega) (by omega), show s * 20 + (i - 0) = 20 * s + i by omega]
        exact H.2 s hs3 hbs i hi
      generalize xsA h 39 (va_cpy (xI h 42) (xI h 39) (s * 20) (tn (0 : Int32)) (tn (20 : Int32))) = h1 at f1 e1 ⊢
      have M1 := M.fx f1 (by decide)
      refine c_pclear (f := f) M1.1 (fun h2 f2 P2 => ⟨f2.sh M1.1 (by decide), ?_⟩)
      have M2 := M1.fx f2 (by decide)
      refine c_forgetG M2.1 (fun h3 f3 e3 e4 e5 => ?_)
      have M3 := M2.fx f3 (by decide)
      refine ⟨M3.1, _, rfl, k1 s hs3 rfl hbs h3 ⟨((f1.mono (by decide)).tr (f2.mono (by decide))).tr (f3.mono (by decide)), M3, by rw [f3.at (by decide), f2.at (by decide)]; exact e1, ?_, e3, e4, e5⟩⟩
      obtain ⟨t, p1, p2, p3, p4, p5⟩ := P2
      exact ⟨t, p1, p2, by rw [f3.at (by decide)]; exact p3, by rw [f3.at (by decide)]; exact p4, by rw [f3.at (by decide)]; exact p5⟩
    · rintro ⟨s', a1, a2, a3⟩
      have a2 := (nI_eq (by omega) (by omega)).mp a2
      subst a2
      have := (hM_get (hb := hb) hs3).mp (Classical.not_not.mp z)
      rw [a3] at this
      cases this
  · have no : ¬ ∃ s, s < 3 ∧ x = nI s ∧ hb s = true := by
      rintro ⟨s, a1, a2, a3⟩
      subst a2
      exact q.elim (nI_pos (by omega)) (nI_ge a1 (by decide))
    refine ⟨fun _ => ⟨_, rfl, k0 no⟩, fun z => ⟨fun _ => ⟨_, rfl, k0 no⟩, fun y => ?_⟩⟩
    rcases q with q | q
    · exact absurd q z
    · exact absurd q y
theorem l_blkB (M : CM T c h) (hr : EqR (xI h 39) r) (kk : Q (.int (blkB T r)) h) : ∀ (k p : Nat), p + k = tn (T 0 1) → Ev 157 4 [.ref 4, .int (bor (fun p => if r (8 + p) = 4 then bt p else 0) p), .int (nI p)] [] h Q := by
  have p6 := M.p6
  have e1 : xI h (xR h 34 0) 1 = nI (tn (T 0 1)) := by rw [M.2.1, M.t0]; exact M.2.2.2.p
  intro k
  induction k with
  | zero =>
    intro p hk
    refine B_157_4 M.1 ?_
    try simp (disch := omega) only [lit, tn_nI, z_inb, nI_add, pk_mul, z_le, z_nle, z_lt, z_nlt, z_ne, z_m1, pk_sub, xI_ss, xI_sd, xI_n, eq_self, true_and, and_true, and_self, not_true_eq_false, not_false_eq_true, false_implies, true_implies, implies_true, Classical.not_not, forall_const, true_or, or_true, false_or, or_false, false_and, and_false, if_true, if_false, ite_true, ite_false, reduceIte, reduceCtorEq, e1]
    unfold blkB at kk
    rw [show p = tn (T 0 1) by omega]
    exact kk
  | succ k ih =>
    intro p hk
    have e8 := hr (8 + p) (by omega)
    have i1 := ih (p + 1) (by omega)
    have eb : bor (fun p => if r (8 + p) = 4 then bt p else 0) (p + 1) = bor (fun p => if r (8 + p) = 4 then bt p else 0) p ||| (if r (8 + p) = 4 then bt p else 0) := rfl
    rw [eb] at i1
    refine B_157_4 M.1 ?_
    rw [e1, nI_1, show (8 : Int32) + nI p = nI (8 + p) from nI_add 8 p, tn_nI (by omega), e8]
    refine ⟨fun z => absurd z (nI_ge (by omega) (by omega)), fun _ => ⟨inb (by omega) (by decide), fun z => ?_, fun z => ?_⟩⟩
    · rw [if_neg z, Int32.or_zero] at i1
      exact i1
    · rw [if_pos (Classical.not_not.mp z)] at i1
      exact i1
theorem c_cCount {x : Int32} {tl n sc : Nat} {f : Nat → Nat → Int32} {hb : Nat → Bool} {hf : Nat → Nat → Int32} {K : Int32 → XH → Prop} (M : CM T c h) (hr : EqR (xI h 39) r) (P : PC n f h) (H : HC hb hf h) (e41 : xI h 4 1 = nI tl) (e58 : xI h 58 0 = nI sc) (k : K (oCount T r tl n sc hb x) h) : ClI 156 [.ref 4, .int x] h K := by
  unfold oCount at k
  have t0 : ∀ j, xI h (xR h 34 0) j = T 0 j := fun j => by rw [M.2.1, M.t0]
  have r14 : xI h 39 (tn 14) = r 14 := hr 14 (by omega)
  have r15 : xI h 39 (tn 15) = r 15 := hr 15 (by omega)
  have r16 : xI h 39 (tn 16) = r 16 := hr 16 (by omega)
  have hp : xI h 40 0 = nI n := by obtain ⟨t, p1, p2, p3, p4, p5⟩ := P; exact p3
  refine B_156_0 M.1 ?_
  rw [t0, t0, t0, t0, t0, r14, r15, r16, hp, e41, e58, H.1]
  refine ⟨fun z => ?_, fun z0 => ⟨fun z => ?_, fun z1 => ⟨fun z => ?_, fun z2 => ⟨fun z => ?_, fun z3 => ⟨fun z => ?_, fun z4 => ⟨fun z => ?_, fun z5 => ⟨fun z => ?_, fun z6 => ⟨fun z => ?_, fun z7 => ⟨fun z => ?_, fun z8 => ⟨fun z => ?_, fun z9 => ⟨fun z => ?_, fun z10 => ⟨fun z => ?_, fun z11 => ⟨fun z => ?_, fun z12 => ?_⟩⟩⟩⟩⟩⟩⟩⟩⟩⟩⟩⟩⟩
  · rw [if_pos z] at k; exact ⟨_, rfl, k⟩
  · rw [if_neg z0, if_pos z] at k; exact ⟨_, rfl, k⟩
  · rw [if_neg z0, if_neg z1, if_pos z] at k; exact ⟨(inb (k := 14) (by decide) (by decide)), _, rfl, k⟩
  · rw [if_neg z0, if_neg z1, if_neg z2, if_pos z] at k; exact ⟨_, rfl, k⟩
  · rw [if_neg z0, if_neg z1, if_neg z2, if_neg z3, if_pos z] at k
    exact B_157_0 M.1 (l_blkB M hr ⟨_, rfl, M.1, _, rfl, k⟩ (tn (T 0 1)) 0 (by omega))
  · rw [if_neg z0, if_neg z1, if_neg z2, if_neg z3, if_neg z4, if_pos z] at k; exact ⟨(inb (k := 16) (by decide) (by decide)), _, rfl, k⟩
  · rw [if_neg z0, if_neg z1, if_neg z2, if_neg z3, if_neg z4, if_neg z5, if_pos z] at k; exact ⟨(inb (k := 15) (by decide) (by decide)), _, rfl, k⟩
  · rw [if_neg z0, if_neg z1, if_neg z2, if_neg z3, if_neg z4, if_neg z5, if_neg z6, if_pos z] at k; exact ⟨_, rfl, k⟩
  · rw [if_neg z0, if_neg z1, if_neg z2, if_neg z3, if_neg z4, if_neg z5, if_neg z6, if_neg z7, if_pos z] at k; exact ⟨_, rfl, k⟩
  · rw [if_neg z0, if_neg z1, if_neg z2, if_neg z3, if_neg z4, if_neg z5, if_neg z6, if_neg z7, if_neg z8, if_pos z] at k; exact ⟨_, rfl, k⟩
  · rw [if_neg z0, if_neg z1, if_neg z2, if_neg z3, if_neg z4, if_neg z5, if_neg z6, if_neg z7, if_neg z8, if_neg z9, if_pos z] at k
    exact c_bitCount M.1 hM_lt ⟨M.1, _, rfl, by rw [hM_bc]; exact k⟩
  · rw [if_neg z0, if_neg z1, if_neg z2, if_neg z3, if_neg z4, if_neg z5, if_neg z6, if_neg z7, if_neg z8, if_neg z9, if_neg z10, if_pos z] at k; exact ⟨_, rfl, k⟩
  · rw [if_neg z0, if_neg z1, if_neg z2, if_neg z3, if_neg z4, if_neg z5, if_neg z6, if_neg z7, if_neg z8, if_neg z9, if_neg z10, if_neg z11, if_pos z] at k; exact ⟨_, rfl, k⟩
  · rw [if_neg z0, if_neg z1, if_neg z2, if_neg z3, if_neg z4, if_neg z5, if_neg z6, if_neg z7, if_neg z8, if_neg z9, if_neg z10, if_neg z11, if_neg z12] at k; exact ⟨_, rfl, k⟩
end CSI

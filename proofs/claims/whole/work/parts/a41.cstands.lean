/-! STANDS: the class; longs' frame -/
def Lx (S L : List Nat) (h h1 : XH) : Prop := xR h1 = xR h ∧ (∀ a, a ∉ L → xL h1 a = xL h a) ∧ xK h1 = xK h ∧ xN h1 = xN h ∧ xT h1 = xT h ∧ xS h1 = xS h ∧ ∀ a, a ∉ S → xI h1 a = xI h a
section LX
variable {S S' L L' : List Nat} {h h1 h2 : XH} {a j n : Nat}
theorem Lx.rf : Lx S L h h := ⟨rfl, fun _ _ => rfl, rfl, rfl, rfl, rfl, fun _ _ => rfl⟩
theorem Lx.tr (p : Lx S L h h1) (q : Lx S L h1 h2) : Lx S L h h2 := ⟨q.1.trans p.1, fun a ha => (q.2.1 a ha).trans (p.2.1 a ha), q.2.2.1.trans p.2.2.1, q.2.2.2.1.trans p.2.2.2.1, q.2.2.2.2.1.trans p.2.2.2.2.1, q.2.2.2.2.2.1.trans p.2.2.2.2.2.1, fun a ha => (q.2.2.2.2.2.2 a ha).trans (p.2.2.2.2.2.2 a ha)⟩
theorem Lx.mono (p : Lx S L h h1) (hS : ∀ a ∈ S, a ∈ S') (hL : ∀ a ∈ L, a ∈ L') : Lx S' L' h h1 := ⟨p.1, fun a ha => p.2.1 a (fun q => ha (hL a q)), p.2.2.1, p.2.2.2.1, p.2.2.2.2.1, p.2.2.2.2.2.1, fun a ha => p.2.2.2.2.2.2 a (fun q => ha (hS a q))⟩
theorem Fx.lx (p : Fx S h h1) : Lx S L h h1 := ⟨p.1, fun _ _ => by rw [p.2.1], p.2.2⟩
theorem Lx.set (p : Lx S L h h1) (ha : a ∈ S) {v : Int32} : Lx S L h (xsI h1 a j v) := p.tr (Fx.lx (Fx.rf.set ha))
theorem Lx.setL (p : Lx S L h h1) (ha : a ∈ L) {v : Int64} : Lx S L h (xsL h1 a j v) := p.tr ⟨rfl, fun b hb => up_ne (fun e : b = a => hb (by rw [e]; exact ha)), rfl, rfl, rfl, rfl, fun _ _ => rfl⟩
theorem Lx.sh (p : Lx S L h h1) (hs : Sh h) (h1n : 1 ∉ S) : Sh h1 := hs.fr p.2.2.1 p.2.2.2.1 p.1 p.2.2.2.2.1 (p.2.2.2.2.2.2 1 h1n)
theorem Lx.at (p : Lx S L h h1) (ha : a ∉ S) : xI h1 a = xI h a := p.2.2.2.2.2.2 a ha
theorem Lx.al (p : Lx S L h h1) (ha : a ∉ L) : xL h1 a = xL h a := p.2.1 a ha
theorem Lx.ar (p : Lx S L h h1) (r : Ar h a n) : Ar h1 a n := by
  unfold Ar
  rw [p.2.2.1, p.2.2.2.1]
  exact r
theorem Lx.lr (p : Lx S L h h1) (r : Lr h a n) : Lr h1 a n := by
  unfold Lr
  rw [p.2.2.1, p.2.2.2.1]
  exact r
theorem xL_s {v : Int64} : xL (xsL h a j v) a = up (xL h a) j v := up_same
theorem xL_n {b : Nat} {v : Int64} (hb : b ≠ a) : xL (xsL h a j v) b = xL h b := up_ne hb
theorem tx_lx (hs : Sh h) (f : Lx S L h h1) (hS : ∀ a ∈ S, 34 ≤ a) : tx h1 = tx h := by
  funext k
  unfold tx
  rw [f.1]
  by_cases hk : k ≤ 9
  · rw [if_pos hk, if_pos hk, f.at (fun q => by have := hS _ q; rcases ss_p hs with e | e <;> omega)]
  · rw [if_neg hk, if_neg hk]
theorem CM.lx {T : Nat → Nat → Int32} {c : Nat} (m : CM T c h) (f : Lx S L h h1) (hS : ∀ a ∈ S, 34 ≤ a) : CM T c h1 := ⟨f.sh m.1 (fun q => by have := hS 1 q; omega), by rw [f.1]; exact m.2.1, (tx_lx m.1 f hS).trans m.2.2.1, m.2.2.2⟩
end LX
theorem l_flL {h0 : XH} {a n : Nat} {v : Int64} {Q : Value → XH → Prop} (hs : Sh h0) (ra : Lr h0 a n) (hn : n < 2 ^ 31) (kk : ∀ h1, Lx [] [a] h0 h1 → (∀ j, j < n → xL h1 a j = v) → Q .null h1) : ∀ (m j : Nat) (h : XH), j + m = n → Lx [] [a] h0 h → (∀ i, i < j → xL h a i = v) → Ev 89 6 [.ref a, .long v, .null, .int (nI j), .int (nI n)] [] h Q := by
  intro m
  induction m with
  | zero =>
    intro j h hm f hq
    refine B_89_6 (f.sh hs (by decide)) (f.lr ra) ?_
    try simp (disch := omega) only [lit, tn_nI, z_inb, nI_add, pk_mul, z_le, z_nle, z_lt, z_nlt, z_ne, z_m1, pk_sub, xI_ss, xI_sd, xI_n, eq_self, true_and, and_true, and_self, not_true_eq_false, not_false_eq_true, false_implies, true_implies, implies_true, Classical.not_not, forall_const, true_or, or_true, false_or, or_false, false_and, and_false, if_true, if_false, ite_true, ite_false, reduceIte, reduceCtorEq]
    exact kk h f (fun i hi => hq i (by omega))
  | succ m ih =>
    intro j h hm f hq
    refine B_89_6 (f.sh hs (by decide)) (f.lr ra) ?_
    try simp (disch := omega) only [lit, tn_nI, z_inb, nI_add, pk_mul, z_le, z_nle, z_lt, z_nlt, z_ne, z_m1, pk_sub, xI_ss, xI_sd, xI_n, eq_self, true_and, and_true, and_self, not_true_eq_false, not_false_eq_true, false_implies, true_implies, implies_true, Classical.not_not, forall_const, true_or, or_true, false_or, or_false, false_and, and_false, if_true, if_false, ite_true, ite_false, reduceIte, reduceCtorEq]
    refine ih (j + 1) _ (by omega) (f.setL (by simp)) (fun i hi => ?_)
    rw [xL_s]
    by_cases e : i = j
    · subst e; exact up_same
    · rw [up_ne e]; exact hq i (by omega)
theorem c_fillL {h0 : XH} {a n : Nat} {v : Int64} {K : XH → Prop} (hs : Sh h0) (ra : Lr h0 a n) (hn : n < 2 ^ 31) (k : ∀ h1, Lx [] [a] h0 h1 → (∀ j, j < n → xL h1 a j = v) → K h1) : ClV 89 [.ref a, .long v] h0 K :=
  B_89_0 hs ra (l_flL hs ra hn (fun h1 f q => ⟨rfl, k h1 f q⟩) n 0 h0 (by omega) Lx.rf (fun i hi => absurd hi (by omega)))
/-! which shades a page can get -/
def mkL (T : Nat → Nat → Int32) (p : Nat) : Nat → Nat → Int32 → Int32
  | 0, _, acc => acc
  | k + 1, n, acc => mkL T p k (n + 1) (acc ||| (1 <<< (shB T p (nI n) &&& 31)))
theorem mkL_k {T : Nat → Nat → Int32} {p d : Nat} : ∀ k n acc, gb acc d = true → gb (mkL T p k n acc) d = true := by
  intro k
  induction k with
  | zero => intro n acc h; exact h
  | succ k ih => intro n acc h; exact ih (n + 1) _ (by rw [gb_or, h]; rfl)
theorem mkL_has {T : Nat → Nat → Int32} {p d m : Nat} (hd : d < 5) (hm : shB T p (nI m) = nI d) : ∀ k n acc, n ≤ m → m < n + k → gb (mkL T p k n acc) d = true := by
  intro k
  induction k with
  | zero => intro n acc h1 h2; omega
  | succ k ih =>
    intro n acc h1 h2
    by_cases e : n = m
    · subst e
      refine mkL_k k (n + 1) _ ?_
      rw [gb_or, hm]
      have := gb_bt d (by omega) d (by omega)
      unfold bt at this
      rw [this]
      simp
    · exact ih (n + 1) _ (by omega) (by omega)
theorem fm_n {T : Nat → Nat → Int32} {r : Nat → Int32} {p : Nat} : ∀ n, ∃ m, m ≤ n ∧ fm T r p n = nI m := by
  intro n
  induction n with
  | zero => exact ⟨0, Nat.le_refl _, rfl⟩
  | succ c ih =>
    obtain ⟨m, hm, e⟩ := ih
    rw [fm_s]
    split
    · exact ⟨m + 1, by omega, by rw [e, nI_1]⟩
    · exact ⟨m, by omega, e⟩
theorem lt_n {T : Nat → Nat → Int32} {r : Nat → Int32} {p : Nat} : ∀ n, ∃ m, m ≤ cnt (fun c => lo T p c) n ∧ lt' T r p n = nI m := by
  intro n
  induction n with
  | zero => exact ⟨0, Nat.le_refl _, rfl⟩
  | succ c ih =>
    obtain ⟨m, hm, e⟩ := ih
    have ec : cnt (fun c => lo T p c) (c + 1) = if lo T p c then cnt (fun c => lo T p c) c + 1 else cnt (fun c => lo T p c) c := rfl
    show ∃ m, m ≤ _ ∧ (if lo T p c = true ∧ hl T r p c = true then lt' T r p c + 1 else lt' T r p c) = nI m
    rw [ec]
    by_cases q : lo T p c = true
    · rw [if_pos q]
      split
      · exact ⟨m + 1, by omega, by rw [e, nI_1]⟩
      · exact ⟨m, by omega, e⟩
    · rw [if_neg q, if_neg (fun z => q z.1)]
      exact ⟨m, hm, e⟩
/-- the bits of the claims that look at shades -/
def tL (T : Nat → Nat → Int32) : Prop := ∀ p, p < 6 → ∃ X, X < 64 ∧ T 7 p = nI X
theorem lo_b : ∀ X, X < 64 → ∀ c, c < 6 → decide (¬ (nI X >>> (nI c &&& 31)) &&& 1 = 0) = bX X c := by decide +kernel
theorem cnt_mo {f : Nat → Bool} {n : Nat} : ∀ k, cnt f n ≤ cnt f (n + k) := by
  intro k
  rw [cnt_app]
  omega
def cbM (T : Nat → Nat → Int32) (R : Nat → Int32) (p : Nat) : Int32 := if (R 15 >>> (nI p &&& 31)) &&& 1 = 1 then 1 else mkL T p (bc (tn (T 7 p)) + 1) (tn (fm T R p (tn (T 6 p)))) 0
def sEq (T : Nat → Nat → Int32) (a b : Nat → Int32) : Prop := ∀ i, ¬ (8 ≤ i ∧ i < 8 + tn (T 0 1)) → a i = b i
theorem sEq.sh {T : Nat → Nat → Int32} {a b : Nat → Int32} (h : sEq T a b) (h6 : tn (T 0 1) ≤ 6) : shEq a b := fun i hi => h i (by omega)
theorem cb_ok {T : Nat → Nat → Int32} {R R' : Nat → Int32} {p d : Nat} (ht : tSet T) (hT : tL T) (hp : p < tn (T 0 1)) (he : sEq T R R') (hd : d < 5) (hno : gb (cbM T R p) d = false) : ¬ shNx T R' p = nI d := by
  intro e
  have p6 : tn (T 0 1) ≤ 6 := ht.1.2.1.2
  have e15 : R' 15 = R 15 := (he 15 (by omega)).symm
  unfold shNx at e
  unfold cbM at hno
  rw [e15] at e
  by_cases w : (R 15 >>> (nI p &&& 31)) &&& 1 = 1
  · rw [if_pos w] at e hno
    have : d = 0 := by
      have := (nI_eq (a := 0) (b := d) (by decide) (by omega)).mp e
      omega
    subst this
    revert hno
    decide
  · rw [if_neg w] at e hno
    obtain ⟨X, hX, eX⟩ := hT p (by omega)
    obtain ⟨c1, c2⟩ := ht.1.2.2 p (by omega)
    obtain ⟨a, ha, ea⟩ := fm_n (T := T) (r := R) (p := p) (tn (T 6 p))
    have ef := fm_eq (r := R) (r' := R') (p := p) ht.2.2 (by omega) (he.sh p6) (tn (T 6 p)) (Nat.le_refl _)
    obtain ⟨b, hb, eb⟩ := lt_n (T := T) (r := R') (p := p) (tn (T 6 p))
    have et := fm_lt (T := T) (r := R') (p := p) (tn (T 6 p))
    rw [← ef, ea, eb, nI_add] at et
    rw [← et] at e
    have hbc : b ≤ bc X := by
      have e1 : cnt (fun c => lo T p c) (tn (T 6 p)) = cnt (bX X) (tn (T 6 p)) := cnt_e _ (fun c hc => by unfold lo; rw [eX]; exact lo_b X hX c (by omega))
      have e2 := cnt_mo (f := bX X) (n := tn (T 6 p)) (6 - tn (T 6 p))
      rw [show tn (T 6 p) + (6 - tn (T 6 p)) = 6 by omega] at e2
      unfold bc
      omega
    rw [ea, eX, tn_nI (by omega), tn_nI (by omega)] at hno
    rw [mkL_has hd e (bc X + 1) a 0 (by omega) (by omega)] at hno
    cases hno
theorem l_canBe {h : XH} {p : Nat} {T : Nat → Nat → Int32} {Q : Value → XH → Prop} (hs : Sh h) (hT : tx h = T) (hp : p < 6) {last : Nat} (hl : last < 100) : ∀ (k n : Nat) (acc : Int32), n + k = last + 1 → Q (.int (mkL T p k n acc)) h → Ev 90 45 [.ref 34, .int (nI p), .null, .int acc, .null, .int (nI last), .int (nI n)] [] h Q := by
  intro k
  induction k with
  | zero =>
    intro n acc hk kk
    refine B_90_45 hs ?_
    try simp (disch := omega) only [lit, tn_nI, z_inb, nI_add, pk_mul, z_le, z_nle, z_lt, z_nlt, z_ne, z_m1, pk_sub, xI_ss, xI_sd, xI_n, eq_self, true_and, and_true, and_self, not_true_eq_false, not_false_eq_true, false_implies, true_implies, implies_true, Classical.not_not, forall_const, true_or, or_true, false_or, or_false, false_and, and_false, if_true, if_false, ite_true, ite_false, reduceIte, reduceCtorEq]
    exact kk
  | succ k ih =>
    intro n acc hk kk
    refine B_90_45 hs ?_
    try simp (disch := omega) only [lit, tn_nI, z_inb, nI_add, pk_mul, z_le, z_nle, z_lt, z_nlt, z_ne, z_m1, pk_sub, xI_ss, xI_sd, xI_n, eq_self, true_and, and_true, and_self, not_true_eq_false, not_false_eq_true, false_implies, true_implies, implies_true, Classical.not_not, forall_const, true_or, or_true, false_or, or_false, false_and, and_false, if_true, if_false, ite_true, ite_false, reduceIte, reduceCtorEq]
    refine c_shadeBy hs hp ?_
    rw [hT]
    refine ⟨hs, ih (n + 1) _ (by omega) kk⟩
theorem c_canBe {h : XH} {p : Nat} {T : Nat → Nat → Int32} {R : Nat → Int32} {K : Int32 → XH → Prop} (hs : Sh h) (hT : tx h = T) (tS : tSet T) (hL : tL T) (hp : p < tn (T 0 1)) (hR : xI h 50 = R) (h38 : xI h 38 p = fm T R p (tn (T 6 p))) (k : K (cbM T R p) h) : ClI 90 [.ref 34, .int (nI p), .ref 50] h K := by
  have p6 : tn (T 0 1) ≤ 6 := tS.1.2.1.2
  obtain ⟨X, hX, eX⟩ := hL p (by omega)
  obtain ⟨a, ha, ea⟩ := fm_n (T := T) (r := R) (p := p) (tn (T 6 p))
  obtain ⟨c1, c2⟩ := tS.1.2.2 p (by omega)
  have e7 : xI h (xR h 34 0 + 7) p = nI X := by
    have : tx h 7 p = nI X := by rw [hT]; exact eX
    exact this
  have hb : bc X ≤ 6 := cnt_le 6
  unfold cbM at k
  rw [ea, eX, tn_nI (by omega), tn_nI (by omega)] at k
  rw [ea] at h38
  refine B_90_0 hs ⟨sk_50 hs, sn_50 hs, by decide⟩ ?_
  try simp (disch := omega) only [lit, tn_nI, z_inb, nI_add, pk_mul, z_le, z_nle, z_lt, z_nlt, z_ne, z_m1, pk_sub, xI_ss, xI_sd, xI_n, eq_self, true_and, and_true, and_self, not_true_eq_false, not_false_eq_true, false_implies, true_implies, implies_true, Classical.not_not, forall_const, true_or, or_true, false_or, or_false, false_and, and_false, if_true, if_false, ite_true, ite_false, reduceIte, reduceCtorEq, hR, e7, h38]
  refine ⟨fun w => ?_, fun w => ?_⟩
  · have w : ¬ R 15 >>> (nI p &&& 31) &&& 1 = 1 := w
    rw [if_neg w] at k
    refine c_bitCount hs hX ⟨hs, ⟨sk_50 hs, sn_50 hs, by decide⟩, ?_⟩
    try simp (disch := omega) only [lit, tn_nI, z_inb, nI_add, pk_mul, z_le, z_nle, z_lt, z_nlt, z_ne, z_m1, pk_sub, xI_ss, xI_sd, xI_n, eq_self, true_and, and_true, and_self, not_true_eq_false, not_false_eq_true, false_implies, true_implies, implies_true, Classical.not_not, forall_const, true_or, or_true, false_or, or_false, false_and, and_false, if_true, if_false, ite_true, ite_false, reduceIte, reduceCtorEq]
    exact l_canBe hs hT (by omega) (by omega) (bc X + 1) a 0 (by omega) ⟨_, rfl, k⟩
  · have w : R 15 >>> (nI p &&& 31) &&& 1 = 1 := w
    rw [if_pos w] at k
    exact ⟨_, rfl, k⟩

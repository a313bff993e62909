/-! THE REFERENCE: a step, and how pages settle -/
def brOk (I : Nat → Nat → Int32) (b : Nat) : Prop := ∃ d e, I 101 b = nI d ∧ I 102 b = nI e ∧ tmOk I d e ∧ (I 98 b = nI 0 ∨ (I 98 b = nI 1 ∧ ∃ a c, I 99 b = nI a ∧ I 100 b = nI c ∧ tmOk I a c ∧ tmOk I c d))
def hd1 (o : Option (List Int32)) : Option Int32 := match o with
  | some (x :: _) => some x
  | _ => none
/-- a law's branches, n of them from b on -/
def lw (I : Nat → Nat → Int32) (v : Nat → Int32) : Nat → Nat → Option Int32
  | 0, _ => none
  | n + 1, b => if I 98 b = nI 0 then hd1 (tmV I v (tn (I 101 b)) (tn (I 102 b))) else
    match tmV I v (tn (I 99 b)) (tn (I 100 b)) with
    | some (x :: _) => match tmV I v (tn (I 100 b)) (tn (I 101 b)) with
      | some (y :: _) => if y ≤ x then lw I v n (b + 1) else hd1 (tmV I v (tn (I 101 b)) (tn (I 102 b)))
      | _ => none
    | _ => none
def lwT (T I : Nat → Nat → Int32) (l f : Nat) : Prop := ∃ b n, I 96 (8 * l + f) = nI b ∧ I 97 (8 * l + f) = nI (b + n) ∧ b + n ≤ 260 ∧ (∀ j, j < n → brOk I (b + j)) ∧ ∀ r v, vOk v r → lw I v n b = rnT T r (T 4 f)
/-- whose fact f is: 0 nobody's, 1 mine, 2 yours -/
def whT (T I : Nat → Nat → Int32) (l f : Nat) : Prop := ∃ w, w ≤ 2 ∧ I 82 (8 * l + f) = nI w ∧ (T 0 4 >>> (nI f &&& 31)) &&& 1 = (if w = 1 then 1 else 0) ∧ (T 0 5 >>> (nI f &&& 31)) &&& 1 = (if w = 2 then 1 else 0)
def Tie (T I : Nat → Nat → Int32) (l : Nat) : Prop := l < 2 ∧ (I 79 l = T 0 0 ∧ I 83 l = T 0 6 ∧ I 84 l = T 0 1 ∧ I 92 l = T 0 2 ∧ I 93 l = T 0 3) ∧ (∀ f, f < tn (T 0 0) → I 80 (8 * l + f) = T 1 f ∧ I 81 (8 * l + f) = T 2 f ∧ whT T I l f ∧ lwT T I l f) ∧ ∀ p, p < tn (T 0 1) → pgT T I l p
/-- facts in the beginning; whose they are; whether each day goes like another -/
def tX (T : Nat → Nat → Int32) : Prop := (∀ f, f < tn (T 0 0) → ∃ m, m ≤ mo T f ∧ T 2 f = nI m) ∧ T 0 4 = bor (fun f => if (T 0 4 >>> (nI f &&& 31)) &&& 1 = 1 then bt f else 0) (tn (T 0 0)) ∧ T 0 5 = bor (fun f => if (T 0 5 >>> (nI f &&& 31)) &&& 1 = 1 then bt f else 0) (tn (T 0 0)) ∧ (T 0 8 = 0 ∨ T 0 8 = 1) ∧ (T 0 8 = 1 → T 0 2 = 0 ∧ ∀ i, i < tn (T 0 7) → T 9 i &&& 15 = 1 → ∃ j, j < 14 ∧ T 9 i >>> (4 &&& 31) = nI j)
/-- what a text that was read keeps -/
def tA (T : Nat → Nat → Int32) : Prop := tSet T ∧ cvT T ∧ fOk T ∧ mOk T ∧ tNum T ∧ (∃ s, s ≤ 100 ∧ T 0 2 = nI s) ∧ tW T ∧ tX T
section TA
variable {T : Nat → Nat → Int32}
theorem tA.p6 (t : tA T) : tn (T 0 1) ≤ 6 := t.1.1.2.1.2
theorem tA.p (t : tA T) : T 0 1 = nI (tn (T 0 1)) := t.1.1.2.1.1
theorem tA.f8 (t : tA T) : tn (T 0 0) ≤ 8 := t.2.2.1.2
theorem tA.f (t : tA T) : T 0 0 = nI (tn (T 0 0)) := t.2.2.1.1
theorem tA.cv (t : tA T) : cvT T := t.2.1
theorem tA.n (t : tA T) : tNum T := t.2.2.2.2.1
theorem tA.s (t : tA T) : ∃ s, s ≤ 100 ∧ T 0 2 = nI s := t.2.2.2.2.2.1
theorem tA.w (t : tA T) : tW T := t.2.2.2.2.2.2.1
theorem tA.x (t : tA T) : tX T := t.2.2.2.2.2.2.2
end TA
/-- the reference, its text in use (side l) tied to T -/
def RM (T : Nat → Nat → Int32) (l : Nat) (h : XH) : Prop := Sh h ∧ xI h 69 18 = nI l ∧ Tie T (rt h) l ∧ tA T
section RMs
variable {T : Nat → Nat → Int32} {l : Nat} {h h1 : XH} {S F : List Nat}
theorem RM.gx (m : RM T l h) (g : Gx S F h h1) (h18 : 18 ∉ F) (hS : ∀ a ∈ S, a ≠ 1 ∧ (a < 79 ∨ 104 < a)) : RM T l h1 := ⟨g.sh m.1 (fun q => (hS 1 q).1 rfl), (g.f h18).trans m.2.1, by rw [rt_gx g (fun a ha => (hS a ha).2)]; exact m.2.2.1, m.2.2.2⟩
theorem RM.l2 (m : RM T l h) : l < 2 := m.2.2.1.1
theorem RM.np (m : RM T l h) : xI h 84 l = nI (tn (T 0 1)) := by rw [← m.2.2.2.p]; exact m.2.2.1.2.1.2.2.1
theorem RM.nf (m : RM T l h) : xI h 79 l = nI (tn (T 0 0)) := by rw [← m.2.2.2.f]; exact m.2.2.1.2.1.1
theorem RM.p6 (m : RM T l h) : tn (T 0 1) ≤ 6 := m.2.2.2.p6
theorem RM.f8 (m : RM T l h) : tn (T 0 0) ≤ 8 := m.2.2.2.f8
end RMs
theorem l_setV {r : Nat → Int32} {h0 : XH} {Q : Value → XH → Prop} (hs0 : Sh h0) (hr : rq (xI h0 109) r) (kk : ∀ h1, Gx [106] [] h0 h1 → vOk (xI h1 106) r → Q .null h1) : ∀ (m i : Nat) (h : XH), i + m = 14 → Gx [106] [] h0 h → (∀ j, j < i → xI h 106 j = r j) → Ev 167 2 [.ref 69, .int (nI i)] [] h Q := by
  intro m
  induction m with
  | zero =>
    intro i h hm g hv
    have e : xI h 109 = xI h0 109 := g.at (by decide) (by decide)
    refine B_167_2 (g.sh hs0 (by decide)) ?_
    simp (disch := omega) only [lit, tn_nI, z_inb, nI_add, pk_mul, z_le, z_nle, z_lt, z_nlt, z_ne, z_m1, pk_sub, xI_ss, xI_sd, xI_n, eq_self, true_and, and_true, and_self, not_true_eq_false, not_false_eq_true, false_implies, true_implies, implies_true, Classical.not_not, forall_const, true_or, or_true, false_or, or_false, false_and, and_false, if_true, if_false, ite_true, ite_false, reduceIte, reduceCtorEq, e]
    refine kk _ (g.set (by decide) (by decide)) ⟨fun j hj => ?_, ?_⟩
    · rw [xI_sd (by omega)]; exact hv j (by omega)
    · rw [xI_ss]; exact hr 15 (by decide)
  | succ m ih =>
    intro i h hm g hv
    have e : xI h 109 = xI h0 109 := g.at (by decide) (by decide)
    refine B_167_2 (g.sh hs0 (by decide)) ?_
    simp (disch := omega) only [lit, tn_nI, z_inb, nI_add, pk_mul, z_le, z_nle, z_lt, z_nlt, z_ne, z_m1, pk_sub, xI_ss, xI_sd, xI_n, eq_self, true_and, and_true, and_self, not_true_eq_false, not_false_eq_true, false_implies, true_implies, implies_true, Classical.not_not, forall_const, true_or, or_true, false_or, or_false, false_and, and_false, if_true, if_false, ite_true, ite_false, reduceIte, reduceCtorEq, e]
    refine ih (i + 1) _ (by omega) (g.set (by decide) (by decide)) (fun j hj => ?_)
    by_cases q : j = i
    · subst q
      rw [xI_ss, hr j (by omega)]
      unfold sw
      rw [if_neg (by omega), if_neg (by omega)]
    · rw [xI_sd q]; exact hv j (by omega)
theorem c_setV {r : Nat → Int32} {h : XH} {K : XH → Prop} (hs : Sh h) (hr : rq (xI h 109) r) (k : ∀ h1, Gx [106] [] h h1 → vOk (xI h1 106) r → K h1) : ClV 167 [.ref 69] h K :=
  B_167_0 hs (l_setV hs hr (fun h1 g v => ⟨rfl, k h1 g v⟩) 14 0 h (by decide) Gx.rf (fun j hj => absurd hj (by omega)))
/-- whether one of the first n pages changes -/
def chg (T : Nat → Nat → Int32) (r : Nat → Int32) : Nat → Nat
  | 0 => 0
  | p + 1 => if chg T r p = 1 then 1 else if shNx T r p = r (8 + p) then 0 else 1
theorem chg_01 {T : Nat → Nat → Int32} {r : Nat → Int32} : ∀ n, chg T r n = 0 ∨ chg T r n = 1 := by
  intro n
  cases n with
  | zero => exact Or.inl rfl
  | succ n =>
    unfold chg
    split
    · exact Or.inr rfl
    · split
      · exact Or.inl rfl
      · exact Or.inr rfl
theorem chg_0 {T : Nat → Nat → Int32} {r : Nat → Int32} : ∀ n, chg T r n = 0 ↔ ∀ p, p < n → shNx T r p = r (8 + p) := by
  intro n
  induction n with
  | zero => exact ⟨fun _ p hp => absurd hp (by omega), fun _ => rfl⟩
  | succ n ih =>
    unfold chg
    rcases chg_01 (T := T) (r := r) n with e | e
    · rw [e, if_neg (by decide)]
      by_cases h : shNx T r n = r (8 + n)
      · rw [if_pos h]
        refine ⟨fun _ p hp => ?_, fun _ => rfl⟩
        by_cases q : p = n
        · subst q; exact h
        · exact ih.mp e p (by omega)
      · rw [if_neg h]
        exact ⟨fun q => absurd q (by decide), fun q => absurd (q n (by omega)) h⟩
    · rw [e, if_pos rfl]
      exact ⟨fun q => absurd q (by decide), fun q => absurd (ih.mpr (fun p hp => q p (by omega))) (by rw [e]; decide)⟩
theorem l_st1 {T : Nat → Nat → Int32} {l : Nat} {r : Nat → Int32} {h0 : XH} {Q : Value → XH → Prop} (M : RM T l h0) (hr : rq (xI h0 109) r) (kk : ∀ h1, Gx [106, 107, 110] [58] h0 h1 → (∀ q, q < tn (T 0 1) → xI h1 110 q = shNx T r q) → Ev 166 68 [.ref 69, .int (nI (chg T r (tn (T 0 1)))), .int (nI 0)] [] h1 Q) :
    ∀ (m p : Nat) (h : XH), p + m = tn (T 0 1) → Gx [106, 107, 110] [58] h0 h → vOk (xI h 106) r → (∀ q, q < p → xI h 110 q = shNx T r q) → Ev 166 8 [.ref 69, .int (nI (chg T r p)), .int (nI p)] [] h Q := by
  have p6 := M.p6
  have l2 := M.l2
  intro m
  induction m with
  | zero =>
    intro p h hm g hv hq
    have M' := M.gx g (by decide) (by decide)
    have e1 := M'.np
    have e2 := M'.2.1
    refine B_166_8 M'.1 ?_
    simp (disch := omega) only [lit, tn_nI, z_inb, nI_add, pk_mul, z_le, z_nle, z_lt, z_nlt, z_ne, z_m1, pk_sub, xI_ss, xI_sd, xI_n, eq_self, true_and, and_true, and_self, not_true_eq_false, not_false_eq_true, false_implies, true_implies, implies_true, Classical.not_not, forall_const, true_or, or_true, false_or, or_false, false_and, and_false, if_true, if_false, ite_true, ite_false, reduceIte, reduceCtorEq, e2, e1]
    rw [show p = tn (T 0 1) by omega]
    exact kk h g (fun q hq' => hq q (by omega))
  | succ m ih =>
    intro p h hm g hv hq
    have M' := M.gx g (by decide) (by decide)
    have e1 := M'.np
    have e2 := M'.2.1
    have hrh : rq (xI h 109) r := by rw [g.at (by decide) (by decide)]; exact hr
    refine B_166_8 M'.1 ?_
    simp (disch := omega) only [lit, tn_nI, z_inb, nI_add, pk_mul, z_le, z_nle, z_lt, z_nlt, z_ne, z_m1, pk_sub, xI_ss, xI_sd, xI_n, eq_self, true_and, and_true, and_self, not_true_eq_false, not_false_eq_true, false_implies, true_implies, implies_true, Classical.not_not, forall_const, true_or, or_true, false_or, or_false, false_and, and_false, if_true, if_false, ite_true, ite_false, reduceIte, reduceCtorEq, e2, e1]
    refine c_shadeNext (T := T) M'.1 l2 (by omega) e2 (M'.2.2.1.2.2.2 p (by omega)) (M.2.2.2.n.2.1 p (by omega)) hrh hv (fun h1 g1 hv1 => ⟨g1.sh M'.1 (by decide), ?_⟩)
    have hr1 : xI h1 109 (8 + p) = r (8 + p) := by
      rw [g1.at (by decide) (by decide), hrh (8 + p) (by omega)]
      unfold sw
      rw [if_neg (by omega), if_neg (by omega)]
    have g2 : Gx [106, 107, 110] [58] h0 (xsI h1 110 p (shNx T r p)) := (g.trm g1 (by decide) (by decide) (by decide) (by decide)).set (by decide) (by decide)
    have hv2 : vOk (xI (xsI h1 110 p (shNx T r p)) 106) r := by rw [xI_n (by decide)]; exact hv1
    have hq2 : ∀ q, q < p + 1 → xI (xsI h1 110 p (shNx T r p)) 110 q = shNx T r q := by
      intro q hq'
      by_cases e : q = p
      · subst e; exact xI_ss
      · rw [xI_sd e, g1.at (by decide) (by decide)]; exact hq q (by omega)
    have nx := ih (p + 1) _ (by omega) g2 hv2 hq2
    have ec : chg T r (p + 1) = if chg T r p = 1 then 1 else if shNx T r p = r (8 + p) then 0 else 1 := rfl
    rcases chg_01 (T := T) (r := r) p with e | e
    · rw [e] at ec ⊢
      rw [if_neg (by decide)] at ec
      simp (disch := omega) only [lit, tn_nI, z_inb, nI_add, pk_mul, z_le, z_nle, z_lt, z_nlt, z_ne, z_m1, pk_sub, xI_ss, xI_sd, xI_n, eq_self, true_and, and_true, and_self, not_true_eq_false, not_false_eq_true, false_implies, true_implies, implies_true, Classical.not_not, forall_const, true_or, or_true, false_or, or_false, false_and, and_false, if_true, if_false, ite_true, ite_false, reduceIte, reduceCtorEq, hr1]
      refine ⟨fun z => ?_, fun z => ?_⟩
      · rw [if_pos z] at ec; rw [ec] at nx; exact nx
      · rw [if_neg z] at ec; rw [ec] at nx; exact nx
    · rw [e] at ec ⊢
      rw [if_pos rfl] at ec
      simp (disch := omega) only [lit, tn_nI, z_inb, nI_add, pk_mul, z_le, z_nle, z_lt, z_nlt, z_ne, z_m1, pk_sub, xI_ss, xI_sd, xI_n, eq_self, true_and, and_true, and_self, not_true_eq_false, not_false_eq_true, false_implies, true_implies, implies_true, Classical.not_not, forall_const, true_or, or_true, false_or, or_false, false_and, and_false, if_true, if_false, ite_true, ite_false, reduceIte, reduceCtorEq]
      rw [ec] at nx
      exact nx
theorem l_st2 {T : Nat → Nat → Int32} {l : Nat} {r : Nat → Int32} {h0 : XH} {x : Nat} {Q : Value → XH → Prop} (hx : x = 0 ∨ x = 1) (M : RM T l h0) (hr : rq (xI h0 109) r) (h10 : ∀ q, q < tn (T 0 1) → xI h0 110 q = shNx T r q) (kk : ∀ h1, Gx [109] [] h0 h1 → rq (xI h1 109) (stR T r) → Q (.int (nI x)) h1) :
    ∀ (m p : Nat) (h : XH), p + m = tn (T 0 1) → Gx [109] [] h0 h → (∀ i, i < 20 → xI h 109 i = if 8 ≤ i ∧ i < 8 + p then shNx T r (i - 8) else sw r i) → Ev 166 68 [.ref 69, .int (nI x), .int (nI p)] [] h Q := by
  have p6 := M.p6
  have l2 := M.l2
  intro m
  induction m with
  | zero =>
    intro p h hm g hq
    have M' := M.gx g (by decide) (by decide)
    have e1 := M'.np
    have e2 := M'.2.1
    refine B_166_68 M'.1 ?_
    simp (disch := omega) only [lit, tn_nI, z_inb, nI_add, pk_mul, z_le, z_nle, z_lt, z_nlt, z_ne, z_m1, pk_sub, xI_ss, xI_sd, xI_n, eq_self, true_and, and_true, and_self, not_true_eq_false, not_false_eq_true, false_implies, true_implies, implies_true, Classical.not_not, forall_const, true_or, or_true, false_or, or_false, false_and, and_false, if_true, if_false, ite_true, ite_false, reduceIte, reduceCtorEq, e2, e1]
    refine ⟨by rcases hx with rfl | rfl <;> simp, kk h g (fun i hi => ?_)⟩
    rw [hq i hi, show p = tn (T 0 1) by omega]
    unfold sw stR
    by_cases q : 8 ≤ i ∧ i < 8 + tn (T 0 1)
    · rw [if_pos q, if_neg (by omega), if_neg (by omega), if_pos q]
    · rw [if_neg q]
      by_cases q4 : i = 14
      · rw [if_pos q4, if_pos q4, if_neg (by omega)]
      · rw [if_neg q4, if_neg q4]
        by_cases q5 : i = 15
        · rw [if_pos q5, if_pos q5, if_neg (by omega)]
        · rw [if_neg q5, if_neg q5, if_neg q]
  | succ m ih =>
    intro p h hm g hq
    have M' := M.gx g (by decide) (by decide)
    have e1 := M'.np
    have e2 := M'.2.1
    have e3 : xI h 110 p = shNx T r p := by rw [g.at (by decide) (by decide)]; exact h10 p (by omega)
    refine B_166_68 M'.1 ?_
    simp (disch := omega) only [lit, tn_nI, z_inb, nI_add, pk_mul, z_le, z_nle, z_lt, z_nlt, z_ne, z_m1, pk_sub, xI_ss, xI_sd, xI_n, eq_self, true_and, and_true, and_self, not_true_eq_false, not_false_eq_true, false_implies, true_implies, implies_true, Classical.not_not, forall_const, true_or, or_true, false_or, or_false, false_and, and_false, if_true, if_false, ite_true, ite_false, reduceIte, reduceCtorEq, e2, e1, e3]
    refine ih (p + 1) _ (by omega) (g.set (by decide) (by decide)) (fun i hi => ?_)
    by_cases q : i = 8 + p
    · subst q
      rw [xI_ss, if_pos (by omega), Nat.add_sub_cancel_left]
    · rw [xI_sd q, hq i hi]
      by_cases q2 : 8 ≤ i ∧ i < 8 + p
      · rw [if_pos q2, if_pos (by omega)]
      · rw [if_neg q2, if_neg (by omega)]
theorem c_steps {T : Nat → Nat → Int32} {l : Nat} {r : Nat → Int32} {h : XH} {K : Int32 → XH → Prop} (M : RM T l h) (hr : rq (xI h 109) r) (k : ∀ h1, Gx [106, 107, 109, 110] [58] h h1 → rq (xI h1 109) (stR T r) → K (nI (chg T r (tn (T 0 1)))) h1) : ClI 166 [.ref 69] h K := by
  refine B_166_0 M.1 (c_setV M.1 hr (fun h1 g1 v1 => ⟨g1.sh M.1 (by decide), ?_⟩))
  have M1 := M.gx g1 (by decide) (by decide)
  have hr1 : rq (xI h1 109) r := by rw [g1.at (by decide) (by decide)]; exact hr
  refine l_st1 M1 hr1 (fun h2 g2 h10 => ?_) (tn (T 0 1)) 0 h1 (by omega) Gx.rf v1 (fun q hq => absurd hq (by omega))
  have M2 := M1.gx g2 (by decide) (by decide)
  have hr2 : rq (xI h2 109) r := by rw [g2.at (by decide) (by decide)]; exact hr1
  refine l_st2 (chg_01 _) M2 hr2 h10 (fun h3 g3 h3r => ⟨_, rfl, k h3 ((g1.trm (S := [106, 107, 110]) (F := [58]) g2 (by decide) (by decide) (by decide) (by decide)).trm g3 (by decide) (by decide) (by decide) (by decide)) h3r⟩) (tn (T 0 1)) 0 h2 (by omega) Gx.rf (fun i hi => ?_)
  rw [if_neg (by omega)]
  exact hr2 i hi

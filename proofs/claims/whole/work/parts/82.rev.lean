/-! THE REFERENCE: codes gone through with a pile -/
def tm (cd ci v : Nat → Int32) : Nat → Nat → List Int32 → Option (List Int32)
  | 0, _, st => some st
  | n + 1, c, st => if cd c = 0 then tm cd ci v n (c + 1) (ci c :: st) else if cd c = 1 then tm cd ci v n (c + 1) (v (tn (ci c)) :: st)
    else match st with
      | b :: a :: s => if cd c = 5 ∧ b = 0 then none else tm cd ci v n (c + 1) (aop (cd c) a b :: s)
      | _ => none
/-- n codes from c on, d on the pile: never too few, one at the end -/
def tmW (cd ci : Nat → Int32) : Nat → Nat → Nat → Prop
  | 0, _, d => d = 1
  | n + 1, c, d => (cd c = nI 0 ∧ tmW cd ci n (c + 1) (d + 1)) ∨ (cd c = nI 1 ∧ (∃ j, j < 16 ∧ ci c = nI j) ∧ tmW cd ci n (c + 1) (d + 1)) ∨ ((∃ k, 2 ≤ k ∧ k ≤ 5 ∧ cd c = nI k) ∧ 2 ≤ d ∧ tmW cd ci n (c + 1) (d - 1))
section TM
variable {cd ci v : Nat → Int32} {n c k : Nat} {st s : List Int32} {a b : Int32}
theorem tm_k0 (h : cd c = nI 0) : tm cd ci v (n + 1) c st = tm cd ci v n (c + 1) (ci c :: st) := if_pos h
theorem tm_k1 (h : cd c = nI 1) : tm cd ci v (n + 1) c st = tm cd ci v n (c + 1) (v (tn (ci c)) :: st) := (if_neg (by rw [h]; decide)).trans (if_pos h)
theorem tm_kk (hk : 2 ≤ k ∧ k ≤ 5) (h : cd c = nI k) : tm cd ci v (n + 1) c (b :: a :: s) = if nI k = nI 5 ∧ b = nI 0 then none else tm cd ci v n (c + 1) (aop (nI k) a b :: s) := by
  have k0 : ¬ cd c = 0 := fun q => absurd ((nI_eq (b := 0) (by omega) (by omega)).mp (h.symm.trans q)) (by omega)
  have k1 : ¬ cd c = 1 := fun q => absurd ((nI_eq (b := 1) (by omega) (by omega)).mp (h.symm.trans q)) (by omega)
  refine (if_neg k0).trans ((if_neg k1).trans ?_)
  show (if cd c = 5 ∧ b = 0 then none else tm cd ci v n (c + 1) (aop (cd c) a b :: s)) = _
  rw [h]
  rfl
end TM
theorem l_term {h0 : XH} {Q : Value → XH → Prop} {to : Nat} (hs0 : Sh h0) (hto : to ≤ 840) : ∀ (n c : Nat) (st : List Int32) (h : XH), c + n = to → st.length + n ≤ 400 → tmW (xI h0 103) (xI h0 104) n c st.length → Gx [107] [] h0 h → pl_is (xI h 107) st →
    (∀ h1, (tm (xI h0 103) (xI h0 104) (xI h0 106) n c st = none → Gx [107] [58] h0 h1 → xI h1 69 58 = nI 1 → Q (.int (nI 0)) h1) ∧ ∀ v, tm (xI h0 103) (xI h0 104) (xI h0 106) n c st = some [v] → Gx [107] [] h0 h1 → Q (.int v) h1) →
    Ev 171 5 [.ref 69, .null, .int (nI to), .int (nI st.length), .int (nI c), .null, .null, .null] [] h Q := by
  intro n
  induction n with
  | zero =>
    intro c st h hc hl hw gx hp kk
    have hw1 : st.length = 1 := hw
    refine B_171_5 (gx.sh hs0 (by decide)) ?_
    simp (disch := omega) only [lit, tn_nI, z_inb, nI_add, pk_mul, z_le, z_nle, z_lt, z_nlt, z_ne, z_m1, pk_sub, xI_ss, xI_sd, xI_n, eq_self, true_and, and_true, and_self, not_true_eq_false, not_false_eq_true, false_implies, true_implies, implies_true, Classical.not_not, forall_const, true_or, or_true, false_or, or_false, false_and, and_false, if_true, if_false, ite_true, ite_false, reduceIte, reduceCtorEq]
    match st, hw1, hp with
    | [v], _, hp => rw [show xI h 107 0 = v from hp.1]; exact (kk h).2 v rfl gx
  | succ n ih =>
    intro c st h hc hl hw gx hp kk
    have hs := gx.sh hs0 (by decide)
    have e3 : xI h 103 = xI h0 103 := gx.at (by decide) (by decide)
    have e4 : xI h 104 = xI h0 104 := gx.at (by decide) (by decide)
    have e6 : xI h 106 = xI h0 106 := gx.at (by decide) (by decide)
    have push : ∀ v, tmW (xI h0 103) (xI h0 104) n (c + 1) (st.length + 1) → tm (xI h0 103) (xI h0 104) (xI h0 106) (n + 1) c st = tm (xI h0 103) (xI h0 104) (xI h0 106) n (c + 1) (v :: st) → Ev 171 159 [.ref 69, .null, .int (nI to), .int (nI (st.length + 1)), .int (nI c), .null, .null, .null] [] (xsI h 107 st.length v) Q := by
      intro v hw' he
      rw [he] at kk
      refine B_171_159 (sh_I hs (by decide)) ?_
      simp (disch := omega) only [lit, tn_nI, z_inb, nI_add, pk_mul, z_le, z_nle, z_lt, z_nlt, z_ne, z_m1, pk_sub, xI_ss, xI_sd, xI_n, eq_self, true_and, and_true, and_self, not_true_eq_false, not_false_eq_true, false_implies, true_implies, implies_true, Classical.not_not, forall_const, true_or, or_true, false_or, or_false, false_and, and_false, if_true, if_false, ite_true, ite_false, reduceIte, reduceCtorEq]
      exact ih (c + 1) (v :: st) _ (by omega) (by simp; omega) hw' (gx.set (by decide) (by decide)) ⟨by rw [xI_s]; exact up_same, by rw [xI_s]; exact pl_up (Nat.le_refl _) hp⟩ kk
    refine B_171_5 hs ?_
    rw [e3, e4, e6]
    rcases hw with ⟨hk, hw⟩ | ⟨hk, ⟨j, hj, ej⟩, hw⟩ | ⟨⟨k, hk2, hk5, hk⟩, hd, hw⟩
    · simp (disch := omega) only [lit, tn_nI, z_inb, nI_add, pk_mul, z_le, z_nle, z_lt, z_nlt, z_ne, z_m1, pk_sub, xI_ss, xI_sd, xI_n, eq_self, true_and, and_true, and_self, not_true_eq_false, not_false_eq_true, false_implies, true_implies, implies_true, Classical.not_not, forall_const, true_or, or_true, false_or, or_false, false_and, and_false, if_true, if_false, ite_true, ite_false, reduceIte, reduceCtorEq, hk]
      exact push _ hw (tm_k0 hk)
    · simp (disch := omega) only [lit, tn_nI, z_inb, nI_add, pk_mul, z_le, z_nle, z_lt, z_nlt, z_ne, z_m1, pk_sub, xI_ss, xI_sd, xI_n, eq_self, true_and, and_true, and_self, not_true_eq_false, not_false_eq_true, false_implies, true_implies, implies_true, Classical.not_not, forall_const, true_or, or_true, false_or, or_false, false_and, and_false, if_true, if_false, ite_true, ite_false, reduceIte, reduceCtorEq, hk, ej]
      exact push _ hw (by rw [tm_k1 hk, ej, tn_nI (show j < 2 ^ 31 by omega)])
    · match st, hd, hp, hl, hw with
      | b :: a :: s, _, hp, hl, hw =>
        have hl' : s.length + 1 + 1 + (n + 1) ≤ 400 := hl
        simp (disch := omega) only [lit, tn_nI, z_inb, nI_add, pk_mul, z_le, z_nle, z_lt, z_nlt, z_ne, z_m1, pk_sub, xI_ss, xI_sd, xI_n, eq_self, true_and, and_true, and_self, not_true_eq_false, not_false_eq_true, false_implies, true_implies, implies_true, Classical.not_not, forall_const, true_or, or_true, false_or, or_false, false_and, and_false, if_true, if_false, ite_true, ite_false, reduceIte, reduceCtorEq, hk, List.length_cons, Nat.add_sub_cancel]
        have hb : xI h 107 (s.length + 1) = b := hp.1
        have ha : xI h 107 s.length = a := hp.2.1
        rw [ha, hb]
        have go : ¬ (k = 5 ∧ b = nI 0) → Ev 171 104 [.ref 69, .null, .int (nI to), .int (nI (s.length + 1)), .int (nI c), .int (nI k), .int a, .int b] [] h Q := by
          intro hno
          have he : tm (xI h0 103) (xI h0 104) (xI h0 106) (n + 1) c (b :: a :: s) = tm (xI h0 103) (xI h0 104) (xI h0 106) n (c + 1) (aop (nI k) a b :: s) := by
            rw [tm_kk ⟨hk2, hk5⟩ hk, if_neg (fun q => hno ⟨(nI_eq (by omega) (by omega)).mp q.1, q.2⟩)]
          rw [he] at kk
          have fin : ∀ v, v = aop (nI k) a b → Ev 171 159 [.ref 69, .null, .int (nI to), .int (nI (s.length + 1)), .int (nI c), .null, .null, .null] [] (xsI h 107 s.length v) Q := by
            intro v hv
            subst hv
            refine B_171_159 (sh_I hs (by decide)) ?_
            simp (disch := omega) only [lit, tn_nI, z_inb, nI_add, pk_mul, z_le, z_nle, z_lt, z_nlt, z_ne, z_m1, pk_sub, xI_ss, xI_sd, xI_n, eq_self, true_and, and_true, and_self, not_true_eq_false, not_false_eq_true, false_implies, true_implies, implies_true, Classical.not_not, forall_const, true_or, or_true, false_or, or_false, false_and, and_false, if_true, if_false, ite_true, ite_false, reduceIte, reduceCtorEq]
            exact ih (c + 1) (aop (nI k) a b :: s) _ (by omega) (by simp; omega) hw (gx.set (by decide) (by decide)) ⟨by rw [xI_s]; exact up_same, by rw [xI_s]; exact pl_up (Nat.le_refl _) hp.2.2⟩ kk
          refine B_171_104 hs ?_
          rcases (show k = 2 ∨ k = 3 ∨ k = 4 ∨ k = 5 by omega) with rfl | rfl | rfl | rfl
          · simp (disch := omega) only [lit, tn_nI, z_inb, nI_add, pk_mul, z_le, z_nle, z_lt, z_nlt, z_ne, z_m1, pk_sub, xI_ss, xI_sd, xI_n, eq_self, true_and, and_true, and_self, not_true_eq_false, not_false_eq_true, false_implies, true_implies, implies_true, Classical.not_not, forall_const, true_or, or_true, false_or, or_false, false_and, and_false, if_true, if_false, ite_true, ite_false, reduceIte, reduceCtorEq]; exact fin _ rfl
          · simp (disch := omega) only [lit, tn_nI, z_inb, nI_add, pk_mul, z_le, z_nle, z_lt, z_nlt, z_ne, z_m1, pk_sub, xI_ss, xI_sd, xI_n, eq_self, true_and, and_true, and_self, not_true_eq_false, not_false_eq_true, false_implies, true_implies, implies_true, Classical.not_not, forall_const, true_or, or_true, false_or, or_false, false_and, and_false, if_true, if_false, ite_true, ite_false, reduceIte, reduceCtorEq]; exact fin _ rfl
          · simp (disch := omega) only [lit, tn_nI, z_inb, nI_add, pk_mul, z_le, z_nle, z_lt, z_nlt, z_ne, z_m1, pk_sub, xI_ss, xI_sd, xI_n, eq_self, true_and, and_true, and_self, not_true_eq_false, not_false_eq_true, false_implies, true_implies, implies_true, Classical.not_not, forall_const, true_or, or_true, false_or, or_false, false_and, and_false, if_true, if_false, ite_true, ite_false, reduceIte, reduceCtorEq]; exact fin _ rfl
          · have hb0 : ¬ b = nI 0 := fun q => hno ⟨rfl, q⟩
            simp (disch := omega) only [lit, tn_nI, z_inb, nI_add, pk_mul, z_le, z_nle, z_lt, z_nlt, z_ne, z_m1, pk_sub, xI_ss, xI_sd, xI_n, eq_self, true_and, and_true, and_self, not_true_eq_false, not_false_eq_true, false_implies, true_implies, implies_true, Classical.not_not, forall_const, true_or, or_true, false_or, or_false, false_and, and_false, if_true, if_false, ite_true, ite_false, reduceIte, reduceCtorEq, hb0]
            exact fin _ rfl
        by_cases h5 : k = 5
        · subst h5
          simp (disch := omega) only [lit, tn_nI, z_inb, nI_add, pk_mul, z_le, z_nle, z_lt, z_nlt, z_ne, z_m1, pk_sub, xI_ss, xI_sd, xI_n, eq_self, true_and, and_true, and_self, not_true_eq_false, not_false_eq_true, false_implies, true_implies, implies_true, Classical.not_not, forall_const, true_or, or_true, false_or, or_false, false_and, and_false, if_true, if_false, ite_true, ite_false, reduceIte, reduceCtorEq]
          refine ⟨fun hb0 => go (fun q => hb0 q.2), fun hb0 => ?_⟩
          refine (kk _).1 ?_ ((gx.mono (F' := [58]) (by decide) (by decide)).fld (by decide)) (by rw [xI_s]; exact up_same)
          rw [tm_kk ⟨by decide, by decide⟩ hk, if_pos ⟨rfl, hb0⟩]
        · simp (disch := omega) only [lit, tn_nI, z_inb, nI_add, pk_mul, z_le, z_nle, z_lt, z_nlt, z_ne, z_m1, pk_sub, xI_ss, xI_sd, xI_n, eq_self, true_and, and_true, and_self, not_true_eq_false, not_false_eq_true, false_implies, true_implies, implies_true, Classical.not_not, forall_const, true_or, or_true, false_or, or_false, false_and, and_false, if_true, if_false, ite_true, ite_false, reduceIte, reduceCtorEq, h5]
          exact go (fun q => h5 q.1)
/-- the codes from c to d: without sense, or what comes out -/
def tmV (I : Nat → Nat → Int32) (v : Nat → Int32) (c d : Nat) : Option (List Int32) := tm (I 103) (I 104) v (d - c) c []
def tmOk (I : Nat → Nat → Int32) (c d : Nat) : Prop := c ≤ d ∧ d ≤ 840 ∧ d - c ≤ 400 ∧ tmW (I 103) (I 104) (d - c) c 0
theorem tm_one {cd ci v : Nat → Int32} : ∀ (n c : Nat) (st r : List Int32), tmW cd ci n c st.length → tm cd ci v n c st = some r → ∃ x, r = [x] := by
  intro n
  induction n with
  | zero =>
    intro c st r hw he
    have hw : st.length = 1 := hw
    cases he
    match st, hw with
    | [x], _ => exact ⟨x, rfl⟩
  | succ n ih =>
    intro c st r hw he
    rcases hw with ⟨hk, hw⟩ | ⟨hk, ⟨j, hj, ej⟩, hw⟩ | ⟨⟨k, hk2, hk5, hk⟩, hd, hw⟩
    · rw [tm_k0 hk] at he
      exact ih (c + 1) (ci c :: st) r hw he
    · rw [tm_k1 hk] at he
      exact ih (c + 1) (v (tn (ci c)) :: st) r hw he
    · match st, hd, hw with
      | b :: a :: s, _, hw =>
        rw [tm_kk ⟨hk2, hk5⟩ hk] at he
        split at he
        · cases he
        · exact ih (c + 1) (aop (nI k) a b :: s) r hw he
theorem c_termOf {h : XH} {c d : Nat} {K : Int32 → XH → Prop} (hs : Sh h) (hw : tmOk (xI h) c d) (k : ∀ h1, (tmV (xI h) (xI h 106) c d = none → Gx [107] [58] h h1 → xI h1 69 58 = nI 1 → K (nI 0) h1) ∧ ∀ v, tmV (xI h) (xI h 106) c d = some [v] → Gx [107] [] h h1 → K v h1) : ClI 171 [.ref 69, .int (nI c), .int (nI d)] h K := by
  obtain ⟨h1, h2, h3, h4⟩ := hw
  exact B_171_0 hs (l_term hs h2 (d - c) c [] h (by omega) (by simp; omega) h4 Gx.rf trivial (fun h1 => ⟨fun a b e => ⟨_, rfl, (k h1).1 a b e⟩, fun v a b => ⟨_, rfl, (k h1).2 v a b⟩⟩))

/-! THE CLASS: its text in use, rows, days ahead -/
def CM (T : Nat → Nat → Int32) (c : Nat) (h : XH) : Prop := Sh h ∧ xR h 34 0 = c ∧ tx h = T ∧ tA T
section CMs
variable {T : Nat → Nat → Int32} {c : Nat} {h h1 : XH} {S : List Nat}
theorem CM.fx (m : CM T c h) (f : Fx S h h1) (hS : ∀ a ∈ S, 34 ≤ a) : CM T c h1 := ⟨f.sh m.1 (fun q => by have := hS 1 q; omega), by rw [f.1]; exact m.2.1, (tx_fx m.1 f hS).trans m.2.2.1, m.2.2.2⟩
theorem CM.c2 (m : CM T c h) : c = 14 ∨ c = 24 := by have := ss_p m.1; rw [m.2.1] at this; exact this
theorem CM.t (m : CM T c h) {k : Nat} (hk : k ≤ 9) : xI h (c + k) = T k := by
  have e : tx h k = T k := by rw [m.2.2.1]
  rw [← e]
  unfold tx
  rw [if_pos hk, m.2.1]
theorem CM.t0 (m : CM T c h) : xI h c = T 0 := m.t (k := 0) (by decide)
theorem CM.tS (m : CM T c h) : txS h c = T := by
  rw [← m.2.2.1, tx_S, m.2.1]
theorem CM.p6 (m : CM T c h) : tn (T 0 1) ≤ 6 := m.2.2.2.p6
theorem CM.f8 (m : CM T c h) : tn (T 0 0) ≤ 8 := m.2.2.2.f8
end CMs
theorem xI_A {h : XH} {a : Nat} {f : Nat → Int32} : xI (xsA h a f) a = f := up_same
theorem xI_An {h : XH} {a b : Nat} {f : Nat → Int32} (hb : b ≠ a) : xI (xsA h a f) b = xI h b := up_ne hb
theorem Fx.setA {S : List Nat} {h h1 : XH} {a : Nat} {f : Nat → Int32} (p : Fx S h h1) (ha : a ∈ S) : Fx S h (xsA h1 a f) := ⟨p.1, p.2.1, p.2.2.1, p.2.2.2.1, p.2.2.2.2.1, p.2.2.2.2.2.1, fun b hb => (up_ne (fun e : b = a => hb (by rw [e]; exact ha))).trans (p.2.2.2.2.2.2 b hb)⟩
theorem Fx.trm {S S1 S2 : List Nat} {h h1 h2 : XH} (p : Fx S1 h h1) (q : Fx S2 h1 h2) (a : ∀ x ∈ S1, x ∈ S) (b : ∀ x ∈ S2, x ∈ S) : Fx S h h2 := (p.mono a).tr (q.mono b)
theorem cpy_eq {f g : Nat → Int32} : EqR (va_cpy f g 0 0 20) f := fun i hi => by rw [pk_cpy_in (by omega) (by omega)]; simp
theorem wNow_e {T : Nat → Nat → Int32} {r s : Nat → Int32} (e : EqR r s) (h8 : tn (T 0 0) ≤ 8) : wNow T r = wNow T s := wOf_c _ (fun f hf => by unfold fdg; rw [e f (by omega)])
theorem num_e {r s : Nat → Int32} (e : EqR r s) : num (rdg r) 6 = num (rdg s) 6 := num_congr 6 (fun p hp => by unfold rdg; rw [e (8 + p) (by omega)])
section CD
variable {T : Nat → Nat → Int32} {c row : Nat} {h : XH} {r : Nat → Int32} {seed : Int32}
theorem dayS_e (t : tA T) {s : Nat → Int32} {b : Nat → Int32} (e : EqR r s) : EqR (dayR T seed b r) (dayS T seed s) := dayR_c t.cv t.2.2.1 e
theorem setS_e (t : tA T) {s : Nat → Int32} {b : Nat → Int32} (e : EqR r s) : EqR (setR T b r) (setS T s) := setR_c t.cv e
theorem c_dayC {K : XH → Prop} (M : CM T c h) (ra : Ar h row 20) (hrow : 39 ≤ row) (hr : EqR (xI h row) r) (k : ∀ h1, Fx [row, 34, 35, 36, 37, 38] h h1 → EqR (xI h1 row) (dayS T seed r) → K h1) : ClV 79 [.ref 34, .ref row, .int seed] h K := by
  have e := M.2.2.1
  refine c_oneDay M.1 ra hrow (by rw [e]; exact M.2.2.2.1) (by rw [e]; exact M.2.2.2.2.2.1) (fun h1 f q => k h1 f ?_)
  rw [q, e]
  exact dayS_e M.2.2.2 hr
theorem c_setC {K : XH → Prop} (M : CM T c h) (ra : Ar h row 20) (hrow : 39 ≤ row) (hr : EqR (xI h row) r) (k : ∀ h1, Fx [row, 34, 35, 36, 38] h h1 → EqR (xI h1 row) (setS T r) → K h1) : ClV 55 [.ref 34, .ref row] h K := by
  have e := M.2.2.1
  refine c_settle M.1 ra hrow (by rw [e]; exact M.2.2.2.1) (fun h1 f q => k h1 f ?_)
  rw [q, e]
  exact setS_e M.2.2.2 hr
theorem c_shC {K : Int32 → XH → Prop} (hs : Sh h) (ra : Ar h row 20) (hr : EqR (xI h row) r) (hsh : rSh T r) (k : K (nI (num (rdg r) 6)) h) : ClI 58 [.ref row] h K := by
  refine c_shadesOf hs ra ?_
  rw [shOf_eq hr.to _ _ (Nat.le_refl _), shOf_r hsh (Nat.le_refl _)]
  exact k
theorem c_wC {K : Int32 → XH → Prop} (M : CM T c h) (ra : Ar h row 20) (hr : EqR (xI h row) r) (hro : rOk T r) (k : K (nI (wNow T r)) h) : ClI 52 [.ref c, .ref row] h K := by
  refine c_worldOf M.1 M.c2 ra ⟨by decide, by decide⟩ (by rw [M.tS]; exact M.2.2.2.2.2.1) ?_
  rw [M.tS, wsum_w M.2.2.2.n M.2.2.2.w (rOk_e hro hr.sy M.f8), wNow_e hr M.f8]
  exact k
theorem c_ptC {w : Nat} {K : XH → Prop} (M : CM T c h) (ra : Ar h row 20) (hrow : 39 ≤ row) (hw : w < 2 ^ 31) (hr : EqR (xI h row) r) (k : ∀ h1, Fx [row] h h1 → EqR (xI h1 row) (wRow T w r) → K h1) : ClV 54 [.ref c, .ref row, .int (nI w)] h K := by
  refine c_putFacts M.1 M.c2 ra ⟨by decide, by decide⟩ (by omega) (by rw [M.tS]; exact M.2.2.2.2.2.1) (by rw [M.tS]; exact M.2.2.2.2.2.2.1) (fun h1 f e => k h1 f ?_)
  rw [e, M.tS, ptF_w M.2.2.2.n hw]
  intro i hi
  unfold wRow
  rw [hr i hi]
theorem c_unC {w : Nat} {K : Int32 → XH → Prop} (M : CM T c h) (ra : Ar h row 20) (hw : w < 2 ^ 31) (k : K (nI (unk T (xI h row) w (tn (T 0 0)))) h) : ClI 102 [.ref c, .int (nI w), .ref row] h K := by
  refine c_unlike M.1 M.c2 ra ⟨by decide, by decide⟩ (by rw [M.tS]; exact M.2.2.2.2.2.1) (by rw [M.tS]; exact M.2.2.2.2.2.2.1) ?_
  rw [M.tS, unl_w M.2.2.2.n hw]
  exact k
theorem c_fInC {w f : Nat} {K : Int32 → XH → Prop} (M : CM T c h) (hf : f < tn (T 0 0)) (hw : w < 2 ^ 31) (k : K (nI (fIn (mo T) w f)) h) : ClI 117 [.ref c, .int (nI w), .int (nI f)] h K := by
  have f8 := M.f8
  obtain ⟨e1, m1, m3⟩ := mo_n M.2.2.2.n hf
  have i3 : xI h (c + 3) f = nI (prd (mo T) f) := by rw [M.t (by decide)]; exact M.2.2.2.w.2.2 f hf
  have i1 : xI h (c + 1) f = nI (mo T f) := by rw [M.t (by decide)]; exact e1
  have hp := prd_pos (m := mo T) f
  have hp2 := prd_le (T := T) (f := f) (by omega) M.2.2.2.w
  have hle : w / prd (mo T) f ≤ w := Nat.div_le_self _ _
  refine B_117_0 M.1 M.c2 ?_
  try simp (disch := omega) only [lit, tn_nI, z_inb, nI_add, pk_mul, z_le, z_nle, z_lt, z_nlt, z_ne, z_m1, pk_sub, xI_ss, xI_sd, xI_n, eq_self, true_and, and_true, and_self, not_true_eq_false, not_false_eq_true, false_implies, true_implies, implies_true, Classical.not_not, forall_const, true_or, or_true, false_or, or_false, false_and, and_false, if_true, if_false, ite_true, ite_false, reduceIte, reduceCtorEq, i3, i1, pk_div, z_rem]
  exact ⟨_, rfl, k⟩
end CD
/-- Ahead has gone n days -/
def AOn (T : Nat → Nat → Int32) (r : Nat → Int32) (h : XH) (n : Nat) : Prop := n ≤ 300 ∧ xI h 53 0 = nI n ∧ EqR (xI h 54) (dN T (T 0 3) n r) ∧ ∀ d, d ≤ n → xI h 56 d = nI (num (rdg (dN T (T 0 3) d r)) 6) ∧ xI h 57 d = nI (wNow T (dN T (T 0 3) d r))
def AOk (T : Nat → Nat → Int32) (r : Nat → Int32) (h : XH) : Prop := xI h 53 0 = -1 ∨ ∃ n, AOn T r h n
theorem ar_54 {h : XH} (hs : Sh h) : Ar h 54 20 := ⟨sk_54 hs, sn_54 hs, by decide⟩
theorem ar_39 {h : XH} (hs : Sh h) : Ar h 39 20 := ⟨sk_39 hs, sn_39 hs, by decide⟩
section AH
variable {T : Nat → Nat → Int32} {c : Nat} {h0 : XH} {r : Nat → Int32} {Q : Value → XH → Prop} {n : Nat}
theorem l_sa (M : CM T c h0) (hro : rOk T r) (hn : n ≤ 300) (kk : ∀ h1 m, Fx [34, 35, 36, 37, 38, 53, 54, 56, 57] h0 h1 → AOn T r h1 m → n ≤ m → Q (.int (nI (num (rdg (dN T (T 0 3) n r)) 6))) h1) :
    ∀ (k m : Nat) (h : XH), m + k = 300 → Fx [34, 35, 36, 37, 38, 53, 54, 56, 57] h0 h → AOn T r h m → Ev 104 67 [.ref 53, .int (nI n), .null, .ref c, .int (nI (m + 1))] [] h Q := by
  have fin : ∀ (m : Nat) (h : XH), Fx [34, 35, 36, 37, 38, 53, 54, 56, 57] h0 h → AOn T r h m → n < m + 1 → Ev 104 67 [.ref 53, .int (nI n), .null, .ref c, .int (nI (m + 1))] [] h Q := by
    intro m h fx A hlt
    have M' := M.fx fx (by decide)
    have m3 := A.1
    have e := (A.2.2.2 n (by omega)).1
    refine B_104_67 M'.1 M'.c2 ?_
    try simp (disch := omega) only [lit, tn_nI, z_inb, nI_add, pk_mul, z_le, z_nle, z_lt, z_nlt, z_ne, z_m1, pk_sub, xI_ss, xI_sd, xI_n, eq_self, true_and, and_true, and_self, not_true_eq_false, not_false_eq_true, false_implies, true_implies, implies_true, Classical.not_not, forall_const, true_or, or_true, false_or, or_false, false_and, and_false, if_true, if_false, ite_true, ite_false, reduceIte, reduceCtorEq, e]
    exact kk h m fx A (by omega)
  intro k
  induction k with
  | zero => intro m h hk fx A; exact fin m h fx A (by omega)
  | succ k ih =>
    intro m h hk fx A
    by_cases hlt : n < m + 1
    · exact fin m h fx A hlt
    · have M' := M.fx fx (by decide)
      have e3 : xI h c 3 = T 0 3 := by rw [M'.t0]
      refine B_104_67 M'.1 M'.c2 ?_
      try simp (disch := omega) only [lit, tn_nI, z_inb, nI_add, pk_mul, z_le, z_nle, z_lt, z_nlt, z_ne, z_m1, pk_sub, xI_ss, xI_sd, xI_n, eq_self, true_and, and_true, and_self, not_true_eq_false, not_false_eq_true, false_implies, true_implies, implies_true, Classical.not_not, forall_const, true_or, or_true, false_or, or_false, false_and, and_false, if_true, if_false, ite_true, ite_false, reduceIte, reduceCtorEq, e3]
      have hrd := rOk_dN M.2.2.2 (seed := T 0 3) m r hro
      refine c_dayC M' (ar_54 M'.1) (by decide) A.2.2.1 (fun h1 f1 e1 => ?_)
      have fx1 : Fx [34, 35, 36, 37, 38, 53, 54, 56, 57] h0 h1 := fx.trm f1 (by decide) (by decide)
      have M1 := M.fx fx1 (by decide)
      rw [← dN_s] at e1
      have hrd1 := rOk_dN M.2.2.2 (seed := T 0 3) (m + 1) r hro
      refine ⟨M1.1, c_shC M1.1 (ar_54 M1.1) e1 hrd1.1 ⟨M1.1, ?_⟩⟩
      try simp (disch := omega) only [lit, tn_nI, z_inb, nI_add, pk_mul, z_le, z_nle, z_lt, z_nlt, z_ne, z_m1, pk_sub, xI_ss, xI_sd, xI_n, eq_self, true_and, and_true, and_self, not_true_eq_false, not_false_eq_true, false_implies, true_implies, implies_true, Classical.not_not, forall_const, true_or, or_true, false_or, or_false, false_and, and_false, if_true, if_false, ite_true, ite_false, reduceIte, reduceCtorEq]
      have fx2 : Fx [34, 35, 36, 37, 38, 53, 54, 56, 57] h0 (xsI h1 56 (m + 1) (nI (num (rdg (dN T (T 0 3) (m + 1) r)) 6))) := fx1.set (by decide)
      have M2 := M.fx fx2 (by decide)
      refine c_wC (r := dN T (T 0 3) (m + 1) r) M2 (ar_54 M2.1) (by rw [xI_n (by decide)]; exact e1) hrd1 ⟨M2.1, ?_⟩
      try simp (disch := omega) only [lit, tn_nI, z_inb, nI_add, pk_mul, z_le, z_nle, z_lt, z_nlt, z_ne, z_m1, pk_sub, xI_ss, xI_sd, xI_n, eq_self, true_and, and_true, and_self, not_true_eq_false, not_false_eq_true, false_implies, true_implies, implies_true, Classical.not_not, forall_const, true_or, or_true, false_or, or_false, false_and, and_false, if_true, if_false, ite_true, ite_false, reduceIte, reduceCtorEq]
      refine ih (m + 1) _ (by omega) ((fx2.set (by decide)).set (by decide)) ⟨by omega, xI_ss, ?_, fun d hd => ?_⟩
      · rw [xI_n (by decide), xI_n (by decide), xI_n (by decide)]; exact e1
      · by_cases q : d = m + 1
        · subst q
          try simp (disch := omega) only [lit, tn_nI, z_inb, nI_add, pk_mul, z_le, z_nle, z_lt, z_nlt, z_ne, z_m1, pk_sub, xI_ss, xI_sd, xI_n, eq_self, true_and, and_true, and_self, not_true_eq_false, not_false_eq_true, false_implies, true_implies, implies_true, Classical.not_not, forall_const, true_or, or_true, false_or, or_false, false_and, and_false, if_true, if_false, ite_true, ite_false, reduceIte, reduceCtorEq]
        · try simp (disch := omega) only [lit, tn_nI, z_inb, nI_add, pk_mul, z_le, z_nle, z_lt, z_nlt, z_ne, z_m1, pk_sub, xI_ss, xI_sd, xI_n, eq_self, true_and, and_true, and_self, not_true_eq_false, not_false_eq_true, false_implies, true_implies, implies_true, Classical.not_not, forall_const, true_or, or_true, false_or, or_false, false_and, and_false, if_true, if_false, ite_true, ite_false, reduceIte, reduceCtorEq]
          rw [f1.at (by decide), f1.at (by decide)]
          exact A.2.2.2 d (by omega)
theorem c_shadesAt {K : Int32 → XH → Prop} (M : CM T c h0) (hr : EqR (xI h0 39) r) (hro : rOk T r) (hA : AOk T r h0) (hn : n ≤ 300) (k : ∀ h1 m, Fx [34, 35, 36, 37, 38, 53, 54, 56, 57] h0 h1 → AOn T r h1 m → n ≤ m → K (nI (num (rdg (dN T (T 0 3) n r)) 6)) h1) : ClI 104 [.ref 53, .int (nI n), .ref 39] h0 K := by
  refine B_104_0 M.1 ?_
  have kk : ∀ h1 m, Fx [34, 35, 36, 37, 38, 53, 54, 56, 57] h0 h1 → AOn T r h1 m → n ≤ m → ∃ v, Value.int (nI (num (rdg (dN T (T 0 3) n r)) 6)) = Value.int v ∧ K v h1 := fun h1 m f A q => ⟨_, rfl, k h1 m f A q⟩
  rw [M.2.1]
  rcases hA with e | ⟨m, A⟩
  · rw [e]
    refine ⟨fun z => absurd z (by decide), fun _ => ?_⟩
    try simp (disch := omega) only [lit, tn_nI, z_inb, nI_add, pk_mul, z_le, z_nle, z_lt, z_nlt, z_ne, z_m1, pk_sub, xI_ss, xI_sd, xI_n, eq_self, true_and, and_true, and_self, not_true_eq_false, not_false_eq_true, false_implies, true_implies, implies_true, Classical.not_not, forall_const, true_or, or_true, false_or, or_false, false_and, and_false, if_true, if_false, ite_true, ite_false, reduceIte, reduceCtorEq]
    refine ⟨by decide, ?_⟩
    have fx1 : Fx [34, 35, 36, 37, 38, 53, 54, 56, 57] h0 (xsA h0 54 (va_cpy (xI h0 39) (xI h0 54) 0 0 20)) := Fx.rf.setA (by decide)
    have M1 := M.fx fx1 (by decide)
    have e1 : EqR (xI (xsA h0 54 (va_cpy (xI h0 39) (xI h0 54) 0 0 20)) 54) r := by rw [xI_A]; exact cpy_eq.tr hr
    refine c_shC M1.1 (ar_54 M1.1) e1 hro.1 ⟨M1.1, ?_⟩
    generalize xsA h0 54 (va_cpy (xI h0 39) (xI h0 54) 0 0 20) = h1 at fx1 M1 e1 ⊢
    have fx2 : Fx [34, 35, 36, 37, 38, 53, 54, 56, 57] h0 (xsI h1 56 0 (nI (num (rdg r) 6))) := fx1.set (by decide)
    have M2 := M.fx fx2 (by decide)
    refine c_wC (r := r) M2 (ar_54 M2.1) (by rw [xI_n (by decide)]; exact e1) hro ⟨M2.1, ?_⟩
    try simp (disch := omega) only [lit, tn_nI, z_inb, nI_add, pk_mul, z_le, z_nle, z_lt, z_nlt, z_ne, z_m1, pk_sub, xI_ss, xI_sd, xI_n, eq_self, true_and, and_true, and_self, not_true_eq_false, not_false_eq_true, false_implies, true_implies, implies_true, Classical.not_not, forall_const, true_or, or_true, false_or, or_false, false_and, and_false, if_true, if_false, ite_true, ite_false, reduceIte, reduceCtorEq]
    refine l_sa M hro hn kk 300 0 _ (by decide) ((fx2.set (by decide)).set (by decide)) ⟨by decide, xI_ss, ?_, fun d hd => ?_⟩
    · rw [xI_n (by decide), xI_n (by decide), xI_n (by decide)]; exact e1
    · rw [show d = 0 by omega]
      try simp (disch := omega) only [lit, tn_nI, z_inb, nI_add, pk_mul, z_le, z_nle, z_lt, z_nlt, z_ne, z_m1, pk_sub, xI_ss, xI_sd, xI_n, eq_self, true_and, and_true, and_self, not_true_eq_false, not_false_eq_true, false_implies, true_implies, implies_true, Classical.not_not, forall_const, true_or, or_true, false_or, or_false, false_and, and_false, if_true, if_false, ite_true, ite_false, reduceIte, reduceCtorEq, show dN T (T 0 3) 0 r = r from rfl]
  · have m3 := A.1
    have e := A.2.1
    try simp (disch := omega) only [lit, tn_nI, z_inb, nI_add, pk_mul, z_le, z_nle, z_lt, z_nlt, z_ne, z_m1, pk_sub, xI_ss, xI_sd, xI_n, eq_self, true_and, and_true, and_self, not_true_eq_false, not_false_eq_true, false_implies, true_implies, implies_true, Classical.not_not, forall_const, true_or, or_true, false_or, or_false, false_and, and_false, if_true, if_false, ite_true, ite_false, reduceIte, reduceCtorEq, e]
    exact l_sa M hro hn kk (300 - m) m h0 (by omega) Fx.rf A
end AH

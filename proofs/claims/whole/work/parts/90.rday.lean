/-! THE REFERENCE: a law, a day -/
theorem min_cl {m : Nat} (hm : m ≤ 3) (v : Int32) : (if 0 < (if v < nI m then v else nI m) then (if v < nI m then v else nI m) else 0) = if 0 ≤ v then (if v ≤ nI m then v else nI m) else 0 := by
  by_cases h0 : v < 0
  · rw [if_neg (Int32.not_le.mpr h0)]
    by_cases h1 : v < nI m
    · rw [if_pos h1, if_neg (fun q => absurd (Int32.lt_trans h0 q) (Int32.lt_irrefl))]
    · exact absurd (Int32.lt_of_lt_of_le h0 (nI_pos' (by omega))) h1
  · obtain ⟨j, hj, rfl⟩ := nI_of h0
    rw [if_pos (nI_pos' hj)]
    have h0' : (0 : Int32) = nI 0 := rfl
    by_cases h1 : j < m
    · rw [if_pos (nI_lt h1 (by omega)), if_pos (nI_le (by omega) (by omega)), h0']
      by_cases h2 : 0 < j
      · rw [if_pos (nI_lt h2 hj)]
      · rw [if_neg (nI_nlt (by omega) (by omega)), show j = 0 by omega]
    · rw [if_neg (nI_nlt (by omega) (by omega)), h0']
      by_cases h2 : j = m
      · subst h2
        rw [if_pos (nI_le (Nat.le_refl _) hj)]
        by_cases h3 : 0 < j
        · rw [if_pos (nI_lt h3 hj)]
        · rw [if_neg (nI_nlt (by omega) (by omega)), show j = 0 by omega]
      · rw [if_neg (nI_ge (by omega) hj)]
        by_cases h3 : 0 < m
        · rw [if_pos (nI_lt h3 (by omega))]
        · rw [if_neg (nI_nlt (by omega) (by omega)), show m = 0 by omega]
/-- what a fact goes to, by what comes out of its law -/
def lawX (T : Nat → Nat → Int32) (r : Nat → Int32) (f : Nat) (X : Option Int32) : Int32 := match X with
  | none => r f
  | some v => if 0 < (if v < T 1 f then v else T 1 f) then (if v < T 1 f then v else T 1 f) else 0
theorem c_termOf2 {h : XH} {c d : Nat} {K : Int32 → XH → Prop} (hs : Sh h) (hw : tmOk (xI h) c d) (k : ∀ v h1, Gx [107] [58] h h1 → (tmV (xI h) (xI h 106) c d = none ∧ xI h1 69 58 = nI 1 ∨ tmV (xI h) (xI h 106) c d = some [v] ∧ xI h1 69 58 = xI h 69 58) → K v h1) : ClI 171 [.ref 69, .int (nI c), .int (nI d)] h K :=
  c_termOf hs hw (fun h1 => ⟨fun hn g eb => k _ h1 g (Or.inl ⟨hn, eb⟩), fun v hn g => k v h1 (g.mono (by decide) (by decide)) (Or.inr ⟨hn, g.f (by decide)⟩)⟩)
section GO
variable {T : Nat → Nat → Int32} {l f : Nat} {r : Nat → Int32} {h0 : XH} {Q : Value → XH → Prop}
theorem hd1_s {o : Option (List Int32)} {v : Int32} (h : o = some [v]) : hd1 o = some v := by rw [h]; rfl
theorem hd1_n {o : Option (List Int32)} (h : o = none) : hd1 o = none := by rw [h]; rfl
theorem l_g101 (M : RM T l h0) (hf : f < tn (T 0 0)) (hr : rq (xI h0 109) r) {b : Nat} (hb : b < 260) (hbr : brOk (rt h0) b) {h : XH} (g : Gx [107] [58] h0 h) (h58 : xI h 69 58 = nI 0) (kk : ∀ h1, Gx [107] [58] h0 h1 → Q (.int (lawX T r f (hd1 (tmV (rt h0) (xI h0 106) (tn (rt h0 101 b)) (tn (rt h0 102 b)))))) h1) : Ev 215 101 [.ref 69, .int (nI f), .int (nI (8 * l + f)), .int (nI b), .null, .null] [] h Q := by
  have l2 := M.l2
  have f8 := M.f8
  have hs := g.sh M.1 (by decide)
  obtain ⟨d, e, ed, ee, ok, -⟩ := hbr
  rw [ed, ee] at kk
  obtain ⟨m, m1, m3, em⟩ := M.2.2.2.n.2.2 f hf
  have e80 : ∀ h1, Gx [107] [58] h0 h1 → xI h1 80 (8 * l + f) = nI m := fun h1 g1 => by rw [g1.at (by decide) (by decide), ← em]; exact (M.2.2.1.2.2.1 f hf).1
  have e109 : ∀ h1, Gx [107] [58] h0 h1 → xI h1 109 f = r f := fun h1 g1 => by rw [g1.at (by decide) (by decide), hr f (by omega), sw_n (by omega)]
  have d8 : d ≤ 840 := Nat.le_trans ok.1 ok.2.1
  have e8 : e ≤ 840 := ok.2.1
  rw [tn_nI (by omega), tn_nI (by omega)] at kk
  refine B_215_101 hs ?_
  have i1 : xI h 101 b = nI d := by rw [g.at (by decide) (by decide)]; exact ed
  have i2 : xI h 102 b = nI e := by rw [g.at (by decide) (by decide)]; exact ee
  have i3 : xI h 103 = rt h0 103 := g.at (by decide) (by decide)
  have i4 : xI h 104 = rt h0 104 := g.at (by decide) (by decide)
  have i6 : xI h 106 = xI h0 106 := g.at (by decide) (by decide)
  simp (disch := omega) only [lit, tn_nI, z_inb, nI_add, pk_mul, z_le, z_nle, z_lt, z_nlt, z_ne, z_m1, pk_sub, xI_ss, xI_sd, xI_n, eq_self, true_and, and_true, and_self, not_true_eq_false, not_false_eq_true, false_implies, true_implies, implies_true, Classical.not_not, forall_const, true_or, or_true, false_or, or_false, false_and, and_false, if_true, if_false, ite_true, ite_false, reduceIte, reduceCtorEq, i1, i2]
  refine c_termOf hs (by rw [tmOk_c i3 i4]; exact ok) (fun h1 => ⟨fun hn g1 eb => ?_, fun v hn g1 => ?_⟩)
  · rw [tmV_c i3 i4, i6] at hn
    have g2 : Gx [107] [58] h0 h1 := g.tr g1
    have k1 := kk h1 g2
    rw [hd1_n hn] at k1
    have e1 := e109 h1 g2
    refine ⟨g1.sh hs (by decide), ?_⟩
    simp (disch := omega) only [lit, tn_nI, z_inb, nI_add, pk_mul, z_le, z_nle, z_lt, z_nlt, z_ne, z_m1, pk_sub, xI_ss, xI_sd, xI_n, eq_self, true_and, and_true, and_self, not_true_eq_false, not_false_eq_true, false_implies, true_implies, implies_true, Classical.not_not, forall_const, true_or, or_true, false_or, or_false, false_and, and_false, if_true, if_false, ite_true, ite_false, reduceIte, reduceCtorEq, eb, e1]
    exact k1
  · rw [tmV_c i3 i4, i6] at hn
    have g2 : Gx [107] [58] h0 h1 := g.trm g1 (by decide) (by decide) (by decide) (by decide)
    have k1 := kk h1 g2
    rw [hd1_s hn] at k1
    unfold lawX at k1
    dsimp only at k1
    rw [em, min_cl m3] at k1
    simp only [lit] at k1
    have e1 := e80 h1 g2
    have e2 : xI h1 69 58 = nI 0 := (g1.f (by decide)).trans h58
    refine ⟨g1.sh hs (by decide), ?_⟩
    simp (disch := omega) only [lit, tn_nI, z_inb, nI_add, pk_mul, z_le, z_nle, z_lt, z_nlt, z_ne, z_m1, pk_sub, xI_ss, xI_sd, xI_n, eq_self, true_and, and_true, and_self, not_true_eq_false, not_false_eq_true, false_implies, true_implies, implies_true, Classical.not_not, forall_const, true_or, or_true, false_or, or_false, false_and, and_false, if_true, if_false, ite_true, ite_false, reduceIte, reduceCtorEq, e2, e1]
    refine ⟨fun z => ⟨fun y => ?_, fun y => ?_⟩, fun z => ?_⟩
    · rw [if_pos z, if_pos y] at k1; exact k1
    · rw [if_pos z, if_neg y] at k1; exact k1
    · rw [if_neg z] at k1; exact k1
theorem l_go (M : RM T l h0) (hf : f < tn (T 0 0)) (hr : rq (xI h0 109) r) {e0 : Nat} (h97 : rt h0 97 (8 * l + f) = nI e0) (he0 : e0 ≤ 260) :
    ∀ (n b : Nat) (h : XH), b + n = e0 → (∀ j, j < n → brOk (rt h0) (b + j)) → Gx [107] [58] h0 h → xI h 69 58 = nI 0 → (∀ h1, Gx [107] [58] h0 h1 → Q (.int (lawX T r f (lw (rt h0) (xI h0 106) n b))) h1) → Ev 215 22 [.ref 69, .int (nI f), .int (nI (8 * l + f)), .int (nI b), .null, .null] [] h Q := by
  have l2 := M.l2
  have f8 := M.f8
  have e109 : ∀ h1, Gx [107] [58] h0 h1 → xI h1 109 f = r f := fun h1 g1 => by rw [g1.at (by decide) (by decide), hr f (by omega), sw_n (by omega)]
  intro n
  induction n with
  | zero =>
    intro b h hn _ g h58 kk
    have i7 : xI h 97 (8 * l + f) = nI e0 := by rw [g.at (by decide) (by decide)]; exact h97
    have e1 := e109 h g
    refine B_215_22 (g.sh M.1 (by decide)) ?_
    simp (disch := omega) only [lit, tn_nI, z_inb, nI_add, pk_mul, z_le, z_nle, z_lt, z_nlt, z_ne, z_m1, pk_sub, xI_ss, xI_sd, xI_n, eq_self, true_and, and_true, and_self, not_true_eq_false, not_false_eq_true, false_implies, true_implies, implies_true, Classical.not_not, forall_const, true_or, or_true, false_or, or_false, false_and, and_false, if_true, if_false, ite_true, ite_false, reduceIte, reduceCtorEq, i7, e1]
    exact kk h g
  | succ n ih =>
    intro b h hn hbr g h58 kk
    have hs := g.sh M.1 (by decide)
    have i7 : xI h 97 (8 * l + f) = nI e0 := by rw [g.at (by decide) (by decide)]; exact h97
    have i8 : xI h 98 b = rt h0 98 b := by rw [g.at (by decide) (by decide)]; rfl
    obtain ⟨d, e, ed, ee, ok, hor⟩ := id (hbr 0 (by omega))
    rw [Nat.add_zero] at ed ee hor
    refine B_215_22 hs ?_
    rcases hor with h0' | ⟨h1', a, c, ea, ec, oa, oc⟩
    · simp (disch := omega) only [lit, tn_nI, z_inb, nI_add, pk_mul, z_le, z_nle, z_lt, z_nlt, z_ne, z_m1, pk_sub, xI_ss, xI_sd, xI_n, eq_self, true_and, and_true, and_self, not_true_eq_false, not_false_eq_true, false_implies, true_implies, implies_true, Classical.not_not, forall_const, true_or, or_true, false_or, or_false, false_and, and_false, if_true, if_false, ite_true, ite_false, reduceIte, reduceCtorEq, i7, i8, h0']
      refine l_g101 M hf hr (by omega) (hbr 0 (by omega)) g h58 (fun h1 g1 => ?_)
      have k1 := kk h1 g1
      unfold lw at k1
      rw [if_pos h0'] at k1
      exact k1
    · have a8 : a ≤ 840 := Nat.le_trans oa.1 oa.2.1
      have c8 : c ≤ 840 := oa.2.1
      have d8 : d ≤ 840 := oc.2.1
      have i9 : xI h 99 b = nI a := by rw [g.at (by decide) (by decide)]; exact ea
      have i0 : xI h 100 b = nI c := by rw [g.at (by decide) (by decide)]; exact ec
      have i3 : xI h 103 = rt h0 103 := g.at (by decide) (by decide)
      have i4 : xI h 104 = rt h0 104 := g.at (by decide) (by decide)
      have i6 : xI h 106 = xI h0 106 := g.at (by decide) (by decide)
      unfold lw at kk
      rw [if_neg (by rw [h1']; decide), ea, ec, ed, tn_nI (by omega), tn_nI (by omega), tn_nI (by omega)] at kk
      simp (disch := omega) only [lit, tn_nI, z_inb, nI_add, pk_mul, z_le, z_nle, z_lt, z_nlt, z_ne, z_m1, pk_sub, xI_ss, xI_sd, xI_n, eq_self, true_and, and_true, and_self, not_true_eq_false, not_false_eq_true, false_implies, true_implies, implies_true, Classical.not_not, forall_const, true_or, or_true, false_or, or_false, false_and, and_false, if_true, if_false, ite_true, ite_false, reduceIte, reduceCtorEq, i7, i8, h1', i9, i0]
      refine c_termOf2 hs (by rw [tmOk_c i3 i4]; exact oa) (fun u h1 g1 c1 => ⟨g1.sh hs (by decide), ?_⟩)
      have hs1 := g1.sh hs (by decide)
      have gg : Gx [107] [58] h0 h1 := g.tr g1
      have j0 : xI h1 100 b = nI c := by rw [gg.at (by decide) (by decide)]; exact ec
      have j1 : xI h1 101 b = nI d := by rw [gg.at (by decide) (by decide)]; exact ed
      have j3 : xI h1 103 = rt h0 103 := gg.at (by decide) (by decide)
      have j4 : xI h1 104 = rt h0 104 := gg.at (by decide) (by decide)
      have j6 : xI h1 106 = xI h0 106 := gg.at (by decide) (by decide)
      simp (disch := omega) only [lit, tn_nI, z_inb, nI_add, pk_mul, z_le, z_nle, z_lt, z_nlt, z_ne, z_m1, pk_sub, xI_ss, xI_sd, xI_n, eq_self, true_and, and_true, and_self, not_true_eq_false, not_false_eq_true, false_implies, true_implies, implies_true, Classical.not_not, forall_const, true_or, or_true, false_or, or_false, false_and, and_false, if_true, if_false, ite_true, ite_false, reduceIte, reduceCtorEq, j0, j1]
      refine c_termOf2 hs1 (by rw [tmOk_c j3 j4]; exact oc) (fun w h2 g2 c2 => ⟨g2.sh hs1 (by decide), ?_⟩)
      have gh : Gx [107] [58] h0 h2 := gg.tr g2
      have e2 := e109 h2 gh
      rw [tmV_c i3 i4, i6] at c1
      rw [tmV_c j3 j4, j6] at c2
      have k1 := kk
      rcases c1 with ⟨n1, b1⟩ | ⟨s1, b1⟩
      · have e5 : xI h2 69 58 = nI 1 := by
          rcases c2 with ⟨n2, b2⟩ | ⟨s2, b2⟩
          · exact b2
          · exact b2.trans b1
        simp (disch := omega) only [lit, tn_nI, z_inb, nI_add, pk_mul, z_le, z_nle, z_lt, z_nlt, z_ne, z_m1, pk_sub, xI_ss, xI_sd, xI_n, eq_self, true_and, and_true, and_self, not_true_eq_false, not_false_eq_true, false_implies, true_implies, implies_true, Classical.not_not, forall_const, true_or, or_true, false_or, or_false, false_and, and_false, if_true, if_false, ite_true, ite_false, reduceIte, reduceCtorEq, e5, e2]
        have k2 := kk h2 gh
        rw [n1] at k2
        exact k2
      · rcases c2 with ⟨n2, b2⟩ | ⟨s2, b2⟩
        · simp (disch := omega) only [lit, tn_nI, z_inb, nI_add, pk_mul, z_le, z_nle, z_lt, z_nlt, z_ne, z_m1, pk_sub, xI_ss, xI_sd, xI_n, eq_self, true_and, and_true, and_self, not_true_eq_false, not_false_eq_true, false_implies, true_implies, implies_true, Classical.not_not, forall_const, true_or, or_true, false_or, or_false, false_and, and_false, if_true, if_false, ite_true, ite_false, reduceIte, reduceCtorEq, b2, e2]
          have k2 := kk h2 gh
          rw [s1, n2] at k2
          exact k2
        · have e5 : xI h2 69 58 = nI 0 := b2.trans (b1.trans h58)
          simp (disch := omega) only [lit, tn_nI, z_inb, nI_add, pk_mul, z_le, z_nle, z_lt, z_nlt, z_ne, z_m1, pk_sub, xI_ss, xI_sd, xI_n, eq_self, true_and, and_true, and_self, not_true_eq_false, not_false_eq_true, false_implies, true_implies, implies_true, Classical.not_not, forall_const, true_or, or_true, false_or, or_false, false_and, and_false, if_true, if_false, ite_true, ite_false, reduceIte, reduceCtorEq, e5]
          refine ⟨fun z => l_g101 M hf hr (by omega) (hbr 0 (by omega)) gh e5 (fun h3 g3 => ?_), fun z => ih (b + 1) h2 (by omega) (fun j hj => ?_) gh e5 (fun h3 g3 => ?_)⟩
          · have k2 := kk h3 g3
            rw [s1, s2] at k2
            dsimp only at k2
            rw [if_neg (Int32.not_le.mpr z)] at k2
            rw [Nat.add_zero, ed, ee, tn_nI (by omega), tn_nI (by have := ok.2.1; omega)]
            rw [ee, tn_nI (by have := ok.2.1; omega)] at k2
            exact k2
          · have := hbr (j + 1) (by omega)
            rw [show b + (j + 1) = b + 1 + j by omega] at this
            exact this
          · have k2 := kk h3 g3
            rw [s1, s2] at k2
            dsimp only at k2
            rw [if_pos (Int32.not_lt.mp z)] at k2
            exact k2
theorem c_goesTo {K : Int32 → XH → Prop} (M : RM T l h0) (hf : f < tn (T 0 0)) (hr : rq (xI h0 109) r) (hv : vOk (xI h0 106) r) (k : ∀ h1, Gx [107] [58] h0 h1 → K (lawV T r f) h1) : ClI 215 [.ref 69, .int (nI f)] h0 K := by
  have l2 := M.l2
  have f8 := M.f8
  have e18 := M.2.1
  obtain ⟨b, n, e6, e7, hbn, hbr, hall⟩ := (M.2.2.1.2.2.1 f hf).2.2.2
  have hX := hall r (xI h0 106) hv
  refine B_215_0 M.1 ?_
  have i6 : xI h0 96 (8 * l + f) = nI b := e6
  simp (disch := omega) only [lit, tn_nI, z_inb, nI_add, pk_mul, z_le, z_nle, z_lt, z_nlt, z_ne, z_m1, pk_sub, xI_ss, xI_sd, xI_n, eq_self, true_and, and_true, and_self, not_true_eq_false, not_false_eq_true, false_implies, true_implies, implies_true, Classical.not_not, forall_const, true_or, or_true, false_or, or_false, false_and, and_false, if_true, if_false, ite_true, ite_false, reduceIte, reduceCtorEq, e18, i6]
  have g1 : Gx [107] [58] h0 (xsI h0 69 58 (nI 0)) := Gx.rf.fld (by decide)
  refine l_go (r := r) M hf hr e7 hbn n b _ rfl hbr g1 xI_ss (fun h1 g2 => ⟨_, rfl, ?_⟩)
  rw [hX]
  exact k h1 g2
end GO

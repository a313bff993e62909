/-! THE SIMPLE CALLS: the reference -/
section RSI
variable {T : Nat → Nat → Int32} {l : Nat} {h h0 : XH} {r : Nat → Int32} {Q : Value → XH → Prop}
theorem c_rFactO {x : Int32} {K : Int32 → XH → Prop} (M : RM T l h) (hr : rq (xI h 108) r) (k : K (oFact T r x) h) : ClI 205 [.ref 69, .int x] h K := by
  have f8 := M.f8
  unfold oFact at k
  refine B_205_0 M.1 (c_rFact M (fun j hj e => ⟨M.1, ?_⟩) (fun q => ⟨M.1, ?_⟩))
  · subst e
    rw [opN_1 hj (by omega)] at k
    have e1 : xI h 108 j = r j := by rw [hr j (by omega), sw_n (by omega)]
    try simp (disch := omega) only [lit, tn_nI, z_inb, nI_add, pk_mul, z_le, z_nle, z_lt, z_nlt, z_ne, z_m1, pk_sub, xI_ss, xI_sd, xI_n, eq_self, true_and, and_true, and_self, not_true_eq_false, not_false_eq_true, false_implies, true_implies, implies_true, Classical.not_not, forall_const, true_or, or_true, false_or, or_false, false_and, and_false, if_true, if_false, ite_true, ite_false, reduceIte, reduceCtorEq, e1]
    exact ⟨_, rfl, k⟩
  · rw [opN_0 q] at k
    try simp (disch := omega) only [lit, tn_nI, z_inb, nI_add, pk_mul, z_le, z_nle, z_lt, z_nlt, z_ne, z_m1, pk_sub, xI_ss, xI_sd, xI_n, eq_self, true_and, and_true, and_self, not_true_eq_false, not_false_eq_true, false_implies, true_implies, implies_true, Classical.not_not, forall_const, true_or, or_true, false_or, or_false, false_and, and_false, if_true, if_false, ite_true, ite_false, reduceIte, reduceCtorEq]
    exact ⟨_, rfl, k⟩
theorem l_rfC {p x n : Nat} {b : Bool} {y : Int32} (hb : (b = true ∧ ¬ y = 4) ∨ (b = false ∧ y = 4)) (M : RM T l h0) (hp : p < 6) (e6 : rt h0 86 (6 * l + p) = nI x) (e7 : rt h0 87 (6 * l + p) = nI (x + n)) (hxn : x + n ≤ 72) (hc : ∀ c, c < n → clT T (rt h0) p c (x + c)) (kk : ∀ h1, Gx [106, 107] [58] h0 h1 → Q (.int (fC T r p b n 0)) h1) :
    ∀ (k i : Nat) (h : XH), i + k = n → Gx [106, 107] [58] h0 h → vOk (xI h 106) r → fC T r p b n 0 = fC T r p b k i → Ev 208 125 [.ref 69, .int (nI p), .int y, .int (nI (6 * l + p)), .int (nI (x + i))] [] h Q := by
  have l2 := M.l2
  intro k
  induction k with
  | zero =>
    intro i h hk g hv e
    have e7' : xI h 87 (6 * l + p) = nI (x + n) := by rw [g.at (by decide) (by decide)]; exact e7
    refine B_208_125 (g.sh M.1 (by decide)) ?_
    try simp (disch := omega) only [lit, tn_nI, z_inb, nI_add, pk_mul, z_le, z_nle, z_lt, z_nlt, z_ne, z_m1, pk_sub, xI_ss, xI_sd, xI_n, eq_self, true_and, and_true, and_self, not_true_eq_false, not_false_eq_true, false_implies, true_implies, implies_true, Classical.not_not, forall_const, true_or, or_true, false_or, or_false, false_and, and_false, if_true, if_false, ite_true, ite_false, reduceIte, reduceCtorEq, e7']
    have kk := kk h g
    rw [e] at kk
    exact kk
  | succ k ih =>
    intro i h hk g hv e
    have hs := g.sh M.1 (by decide)
    have e7' : xI h 87 (6 * l + p) = nI (x + n) := by rw [g.at (by decide) (by decide)]; exact e7
    have e2 : fC T r p b (k + 1) i = if (if b = true then ck T r p i = nI 2 else ¬ ck T r p i = nI 1) then nI i else fC T r p b k (i + 1) := rfl
    refine B_208_125 hs ?_
    rw [tn_nI (show 6 * l + p < 2 ^ 31 by omega), e7']
    refine ⟨inb (by omega) (by decide), fun z => absurd z (nI_ge (by omega) (by omega)), fun _ => ⟨fun y4 => ?_, fun y4 => ?_⟩⟩
    · have hb : b = true := hb.elim (fun q => q.1) (fun q => absurd q.2 y4)
      subst hb
      refine c_claimIs (T := T) (c := i) hs (by rw [rt_gx g (by decide)]; exact hc i (by omega)) hp (by omega) hv (fun h1 g1 hv1 => ⟨g1.sh hs (by decide), fun z => ?_, fun z => ?_⟩)
      · rw [e2, if_neg (show ¬ (if true = true then ck T r p i = nI 2 else ¬ ck T r p i = nI 1) from z)] at e
        rw [nI_1]
        exact ih (i + 1) h1 (by omega) (g.tr g1) hv1 e
      · have e6' : xI h1 86 (6 * l + p) = nI x := by rw [(g.tr g1).at (by decide) (by decide)]; exact e6
        have kk := kk h1 (g.tr g1)
        rw [e, e2, if_pos (show (if true = true then ck T r p i = nI 2 else ¬ ck T r p i = nI 1) from Classical.not_not.mp z)] at kk
        rw [e6', pk_sub (by omega), Nat.add_sub_cancel_left]
        exact ⟨inb (by omega) (by decide), kk⟩
    · have hb : b = false := hb.elim (fun q => absurd q.2 y4) (fun q => q.1)
      subst hb
      refine c_claimIs (T := T) (c := i) hs (by rw [rt_gx g (by decide)]; exact hc i (by omega)) hp (by omega) hv (fun h1 g1 hv1 => ⟨g1.sh hs (by decide), fun z => ?_, fun z => ?_⟩)
      · rw [e2, if_neg (show ¬ (if false = true then ck T r p i = nI 2 else ¬ ck T r p i = nI 1) from fun q => q z)] at e
        rw [nI_1]
        exact ih (i + 1) h1 (by omega) (g.tr g1) hv1 e
      · have e6' : xI h1 86 (6 * l + p) = nI x := by rw [(g.tr g1).at (by decide) (by decide)]; exact e6
        have kk := kk h1 (g.tr g1)
        rw [e, e2, if_pos (show (if false = true then ck T r p i = nI 2 else ¬ ck T r p i = nI 1) from z)] at kk
        rw [e6', pk_sub (by omega), Nat.add_sub_cancel_left]
        exact ⟨inb (by omega) (by decide), kk⟩
theorem c_rPageO {x y : Int32} {K : Int32 → XH → Prop} (M : RM T l h) (hr : rq (xI h 108) r) (k : ∀ h1, Gx [106, 107, 109] [58, 61] h h1 → K (oPage T r x y) h1) : ClI 208 [.ref 69, .int x, .int y] h K := by
  have p6 := M.p6
  have l2 := M.l2
  unfold oPage at k
  refine B_208_0 M.1 (c_rPage M (fun p hp e => ⟨M.1, ?_⟩) (fun q => ⟨M.1, ?_⟩))
  · subst e
    rw [opN_1 hp (by omega)] at k
    have e8 : xI h 108 (tn (8 + nI p)) = r (8 + p) := by
      rw [show (8 : Int32) + nI p = nI (8 + p) from nI_add 8 p, tn_nI (by omega), hr _ (by omega), sw_n (by omega)]
    have e16 : xI h 108 (tn 16) = r 16 := by show xI h 108 16 = _; rw [hr 16 (by omega), sw_n (by omega)]
    have e15 : xI h 108 (tn 14) = r 15 := by show xI h 108 14 = _; rw [hr 14 (by omega)]; rfl
    refine ⟨fun z => absurd z (by decide), fun _ => c_inM (m := 6) M.1 (by decide) (fun j hj e => ⟨M.1, fun _ => ?_, fun z => absurd (by decide : ¬ nI 1 = (0 : Int32)) z⟩) (fun q => ⟨M.1, fun z => absurd rfl z, fun _ => ⟨_, rfl, ?_⟩⟩)⟩
    · subst e
      have jj : j = 0 ∨ j = 1 ∨ j = 2 ∨ j = 3 ∨ j = 4 ∨ j = 5 ∨ j = 6 := by omega
      have s : ∀ a, a < 7 → a ≠ j → ¬ nI j = nI a := fun a ha hne q => hne ((nI_eq (by omega) (by omega)).mp q).symm
      refine ⟨fun z0 => ⟨fun z1 => ⟨fun z6 => ?_, fun z6 => ?_⟩, fun z1 => ?_⟩, fun z0 => ?_⟩
      · refine c_copies M hr (fun h1 g1 v1 _ => ?_)
        have M1 := M.gx g1 (by decide) (by decide)
        refine ⟨M1.1, c_setV M1.1 v1 (fun h2 g2 v2 => ?_)⟩
        have g12 : Gx [106, 107, 109] [58, 61] h h2 := g1.trm g2 (by decide) (by decide) (by decide) (by decide)
        have M2 := M.gx g12 (by decide) (by decide)
        have e18 := M2.2.1
        have pg := M2.2.2.1.2.2.2 p hp
        refine ⟨M2.1, fun z2 => ⟨fun z3 => ?_, fun z3 => ?_⟩, fun z2 => ?_⟩
        · have z0 : ¬ nI j = 0 := z0
          have z1 : ¬ nI j = 1 := z1
          have z2 : ¬ nI j = 2 := z2
          have z3 : ¬ nI j = 3 := z3
          have z6' : ¬ nI j = 6 := z6
          rw [if_neg z0, if_neg z1, if_neg z2, if_neg z3] at k
          obtain ⟨e5, x, n, e6, e7, hxn, n1, n6, eT, hc⟩ := pg
          rw [eT, tn_nI (by omega)] at k
          have e6' : xI h2 86 (6 * l + p) = nI x := e6
          rw [e18, show (6 : Int32) * nI l = nI (6 * l) from pk_mul 6 l, nI_add, tn_nI (show 6 * l + p < 2 ^ 31 by omega), e6']
          refine ⟨inb (by omega) (by decide), ?_⟩
          by_cases j4 : j = 4
          · subst j4
            rw [if_pos (show nI 4 = 4 from rfl)] at k
            exact l_rfC (b := false) (y := nI 4) (Or.inr ⟨rfl, rfl⟩) M2 (by omega) e6 e7 hxn hc (fun h3 g3 => ⟨_, rfl, k h3 (g12.tr (g3.mono (by decide) (by decide)))⟩) n 0 h2 (by omega) Gx.rf v2 rfl
          · have j5 : j = 5 := by
              rcases jj with e | e | e | e | e | e | e
              · subst e; exact absurd rfl z0
              · subst e; exact absurd rfl z1
              · subst e; exact absurd rfl z2
              · subst e; exact absurd rfl z3
              · exact absurd e j4
              · exact e
              · subst e; exact absurd rfl z6'
            subst j5
            rw [if_neg (show ¬ nI 5 = 4 by decide), if_pos (show nI 5 = 5 from rfl)] at k
            exact l_rfC (b := true) (y := nI 5) (Or.inl ⟨rfl, by decide⟩) M2 (by omega) e6 e7 hxn hc (fun h3 g3 => ⟨_, rfl, k h3 (g12.tr (g3.mono (by decide) (by decide)))⟩) n 0 h2 (by omega) Gx.rf v2 rfl
        · have z3 := Classical.not_not.mp z3
          rw [z3] at k
          rw [if_neg (by decide), if_neg (by decide), if_neg (by decide), if_pos rfl] at k
          obtain ⟨e5, x, n, e6, e7, hxn, n1, n6, eT, hc⟩ := pg
          rw [eT] at k
          have e6' : xI h2 86 (6 * l + p) = nI x := e6
          have e7' : xI h2 87 (6 * l + p) = nI (x + n) := e7
          rw [e18, show (6 : Int32) * nI l = nI (6 * l) from pk_mul 6 l, nI_add, tn_nI (show 6 * l + p < 2 ^ 31 by omega), e6', e7', pk_sub (by omega), Nat.add_sub_cancel_left]
          exact ⟨inb (by omega) (by decide), inb (by omega) (by decide), _, rfl, k h2 g12⟩
        · have z2 := Classical.not_not.mp z2
          rw [z2] at k
          rw [if_neg (by decide), if_neg (by decide), if_pos rfl] at k
          refine c_trueOf M2.1 l2 (by omega) e18 pg v2 (fun h3 g3 v3 => ⟨g3.sh M2.1 (by decide), _, rfl, k h3 (g12.tr (g3.mono (by decide) (by decide)))⟩)
      · have z6 := Classical.not_not.mp z6
        rw [z6] at k
        rw [if_neg (by decide), if_neg (by decide), if_neg (by decide), if_neg (by decide), if_neg (by decide), if_neg (by decide), if_pos rfl] at k
        rw [e15]
        exact ⟨inb (k := 14) (by decide) (by decide), _, rfl, k h Gx.rf⟩
      · have z1 := Classical.not_not.mp z1
        rw [z1] at k
        rw [if_neg (by decide), if_pos rfl] at k
        rw [e16]
        exact ⟨inb (k := 16) (by decide) (by decide), _, rfl, k h Gx.rf⟩
      · have z0 := Classical.not_not.mp z0
        rw [z0] at k
        rw [if_pos rfl] at k
        rw [e8, show (8 : Int32) + nI p = nI (8 + p) from nI_add 8 p]
        exact ⟨inb (by omega) (by decide), _, rfl, k h Gx.rf⟩
    · have ne : ∀ a, a < 7 → ¬ y = nI a := fun a ha e => by
        subst e
        exact q.elim (nI_pos (by omega)) (nI_ge (by omega) (by decide))
      rw [if_neg (show ¬ y = 0 from ne 0 (by decide)), if_neg (show ¬ y = 1 from ne 1 (by decide)), if_neg (show ¬ y = 2 from ne 2 (by decide)), if_neg (show ¬ y = 3 from ne 3 (by decide)), if_neg (show ¬ y = 4 from ne 4 (by decide)), if_neg (show ¬ y = 5 from ne 5 (by decide)), if_neg (show ¬ y = 6 from ne 6 (by decide))] at k
      exact k h Gx.rf
  · rw [opN_0 q] at k
    try simp (disch := omega) only [lit, tn_nI, z_inb, nI_add, pk_mul, z_le, z_nle, z_lt, z_nlt, z_ne, z_m1, pk_sub, xI_ss, xI_sd, xI_n, eq_self, true_and, and_true, and_self, not_true_eq_false, not_false_eq_true, false_implies, true_implies, implies_true, Classical.not_not, forall_const, true_or, or_true, false_or, or_false, false_and, and_false, if_true, if_false, ite_true, ite_false, reduceIte, reduceCtorEq]
    exact ⟨_, rfl, k h Gx.rf⟩
theorem c_rSett {x : Int32} {K : Int32 → XH → Prop} (hs : Sh h) (hr : rq (xI h 108) r) (k : K (oSett r x) h) : ClI 211 [.ref 69, .int x] h K := by
  unfold oSett at k
  refine B_211_0 hs (c_inM (m := 2) hs (by decide) (fun j hj e => ⟨hs, ?_⟩) (fun q => ⟨hs, ?_⟩))
  · subst e
    rw [opN_1 hj (by decide)] at k
    have e1 : xI h 108 (17 + j) = r (17 + j) := by rw [hr _ (by omega), sw_n (by omega)]
    try simp (disch := omega) only [lit, tn_nI, z_inb, nI_add, pk_mul, z_le, z_nle, z_lt, z_nlt, z_ne, z_m1, pk_sub, xI_ss, xI_sd, xI_n, eq_self, true_and, and_true, and_self, not_true_eq_false, not_false_eq_true, false_implies, true_implies, implies_true, Classical.not_not, forall_const, true_or, or_true, false_or, or_false, false_and, and_false, if_true, if_false, ite_true, ite_false, reduceIte, reduceCtorEq, e1]
    exact ⟨_, rfl, k⟩
  · rw [opN_0 q] at k
    try simp (disch := omega) only [lit, tn_nI, z_inb, nI_add, pk_mul, z_le, z_nle, z_lt, z_nlt, z_ne, z_m1, pk_sub, xI_ss, xI_sd, xI_n, eq_self, true_and, and_true, and_self, not_true_eq_false, not_false_eq_true, false_implies, true_implies, implies_true, Classical.not_not, forall_const, true_or, or_true, false_or, or_false, false_and, and_false, if_true, if_false, ite_true, ite_false, reduceIte, reduceCtorEq]
    exact ⟨_, rfl, k⟩
theorem c_rWorld {x : Int32} {K : Int32 → XH → Prop} (M : RM T l h) (hr : rq (xI h 108) r) (hro : rOk T r) (k : ∀ h1, Gx [109] [61] h h1 → K (oWorld T r x) h1) : ClI 222 [.ref 69, .int x] h K := by
  unfold oWorld at k
  refine B_222_0 M.1 (c_inM (m := 1) M.1 (by decide) (fun j hj e => ⟨M.1, fun _ => ?_, fun z => absurd (by decide : ¬ nI 1 = (0 : Int32)) z⟩) (fun q => ⟨M.1, fun z => absurd rfl z, fun _ => ⟨_, rfl, ?_⟩⟩))
  · subst e
    refine c_copies M hr (fun h1 g1 v1 _ => ?_)
    have M1 := M.gx g1 (by decide) (by decide)
    refine ⟨M1.1, fun z => ?_, fun z => ?_⟩
    · have j1 : j = 1 := by
        have : j ≠ 0 := fun e => z (by rw [e]; rfl)
        omega
      subst j1
      rw [if_neg (by decide), if_pos (show nI 1 = 1 from rfl)] at k
      have e83 : xI h1 83 l = T 0 6 := M1.2.2.1.2.1.2.1
      have l2 := M.l2
      rw [M1.2.1, tn_nI (by omega), e83]
      exact ⟨inb (by omega) (by decide), _, rfl, k h1 g1⟩
    · rw [Classical.not_not.mp z] at k
      rw [if_pos rfl] at k
      exact c_wNow M1 v1 hro ⟨M1.1, _, rfl, k h1 g1⟩
  · have ne : ∀ a, a < 2 → ¬ x = nI a := fun a ha e => by
      subst e
      exact q.elim (nI_pos (by omega)) (nI_ge (by omega) (by decide))
    rw [if_neg (show ¬ x = 0 from ne 0 (by decide)), if_neg (show ¬ x = 1 from ne 1 (by decide))] at k
    exact k h Gx.rf
abbrev SKp : List Nat := [106, 107, 108, 109, 110, 111, 112, 113]
/-- a new row, the old one kept -/
def NwR (T : Nat → Nat → Int32) (l n : Nat) (f : Nat → Nat → Int32) (r' : Nat → Int32) (h h1 : XH) : Prop := Gx SKp [58, 61, 65] h h1 ∧ RM T l h1 ∧ rq (xI h1 108) r' ∧ PR n f h1
theorem c_rDays {x : Int32} {n : Nat} {f : Nat → Nat → Int32} {K : Int32 → XH → Prop} (M : RM T l h) (hr : rq (xI h 108) r) (hro : rOk T r) (P : PR n f h) (kn : (x < 0 ∨ nI 101 ≤ x) → K (-1) h) (k0 : x = nI 0 → K (r 14) h) (k1 : ∀ m, 0 < m → m < 101 → x = nI m → ∀ h1, NwR T l (n50 n) (pus r f) (dN T (T 0 3) m r) h h1 → K (dN T (T 0 3) m r 14) h1) : ClI 212 [.ref 69, .int x] h K := by
  refine B_212_0 M.1 (c_inM (m := 100) M.1 (by decide) (fun j hj e => ⟨M.1, fun _ => ?_, fun z => absurd (by decide : ¬ nI 1 = (0 : Int32)) z⟩) (fun q => ⟨M.1, fun z => absurd rfl z, fun _ => ⟨_, rfl, kn q⟩⟩))
  subst e
  refine ⟨fun z => ?_, fun z => ?_⟩
  · have j0 : j ≠ 0 := fun e => z (by rw [e]; rfl)
    refine c_copies M hr (fun h1 g1 v1 e61 => ?_)
    have M1 := M.gx g1 (by decide) (by decide)
    refine ⟨M1.1, c_goes (by omega) M1 e61 v1 hro (fun h2 g2 v2 => ?_)⟩
    have M2 := M1.gx g2 (by decide) (by decide)
    have g12 : Gx SKp [58, 61, 65] h h2 := g1.trm g2 (by decide) (by decide) (by decide) (by decide)
    refine ⟨M2.1, c_keepsR (r := r) M2.1 (n := n) (f := f) ?_ (by rw [g2.at (by decide) (by decide), g1.at (by decide) (by decide)]; exact hr) v2 (fun h3 g3 v3 P3 => ?_)⟩
    · obtain ⟨p1, p2, p3⟩ := P
      exact ⟨p1, by rw [g2.f (by decide), g1.f (by decide)]; exact p2, by rw [g2.at (by decide) (by decide), g1.at (by decide) (by decide)]; exact p3⟩
    · have M3 := M2.gx g3 (by decide) (by decide)
      have e15 : xI h3 108 (tn 15) = dN T (T 0 3) j r 14 := by show xI h3 108 15 = _; rw [v3 15 (by decide)]; rfl
      rw [e15]
      exact ⟨M3.1, inb (k := 15) (by decide) (by decide), _, rfl, k1 j (by omega) hj rfl h3 ⟨g12.tr (g3.mono (by decide) (by decide)), M3, v3, P3⟩⟩
  · have e15 : xI h 108 (tn 15) = r 14 := by show xI h 108 15 = _; rw [hr 15 (by decide)]; rfl
    rw [e15]
    exact ⟨inb (k := 15) (by decide) (by decide), _, rfl, k0 (Classical.not_not.mp z)⟩
theorem rq_u {s : Nat → Int32} {j : Nat} {v : Int32} (h : rq s r) (hj : j < 14) : rq (up s j v) (up r j v) := fun i hi => by
  by_cases e : i = j
  · subst e; rw [up_same, sw_n (by omega), up_same]
  · rw [up_ne e, h i hi]
    unfold sw
    rw [up_ne (show 15 ≠ j by omega), up_ne (show 14 ≠ j by omega), up_ne e]
theorem rq_w {s : Nat → Int32} {v : Int32} (h : rq s r) : rq (up s 14 v) (up r 15 v) := fun i hi => by
  by_cases e : i = 14
  · subst e; rw [up_same]; show v = up r 15 v 15; rw [up_same]
  · rw [up_ne e, h i hi]
    unfold sw
    rw [if_neg e, if_neg e]
    by_cases e5 : i = 15
    · rw [if_pos e5, if_pos e5, up_ne (by decide)]
    · rw [if_neg e5, if_neg e5, up_ne e5]
/-- a new row settles, and is kept -/
theorem c_setR {r' : Nat → Int32} {n : Nat} {f : Nat → Nat → Int32} {K : Int32 → XH → Prop} (M : RM T l h0) (hr : rq (xI h0 108) r) (P : PR n f h0) (g : Gx [109] [61] h0 h) (v : rq (xI h 109) r') (hsh : rSh T r') (k : ∀ h1, NwR T l (n50 n) (pus r f) (setS T r') h0 h1 → K (nI 1) h1) : ClV 164 [.ref 69] h (fun h7 => Sh h7 ∧ (ClV 218 [.ref 69] h7 (fun h9 => Sh h9 ∧ (∃ v, Value.int 1 = Value.int v ∧ K v h9)))) := by
  have M' := M.gx g (by decide) (by decide)
  refine c_settles M' v hsh (fun h1 g1 v1 => ?_)
  have M1 := M'.gx g1 (by decide) (by decide)
  refine ⟨M1.1, c_keepsR (r := r) M1.1 (n := n) (f := f) ?_ (by rw [g1.at (by decide) (by decide), g.at (by decide) (by decide)]; exact hr) v1 (fun h3 g3 v3 P3 => ?_)⟩
  · obtain ⟨p1, p2, p3⟩ := P
    exact ⟨p1, by rw [g1.f (by decide), g.f (by decide)]; exact p2, by rw [g1.at (by decide) (by decide), g.at (by decide) (by decide)]; exact p3⟩
  · have M3 := M1.gx g3 (by decide) (by decide)
    exact ⟨M3.1, _, rfl, k h3 ⟨(g.trm g1 (by decide) (by decide) (by decide) (by decide)).tr (g3.mono (by decide) (by decide)), M3, v3, P3⟩⟩
theorem rSh_up {j : Nat} {v : Int32} (h : rSh T r) (hj : j < 8 ∨ 14 ≤ j) : rSh T (up r j v) := ⟨fun p hp => by rw [up_ne (by omega)]; exact h.1 p hp, fun p hp q => by rw [up_ne (by omega)]; exact h.2 p hp q⟩
theorem c_rSet {x v : Int32} {n : Nat} {f : Nat → Nat → Int32} {K : Int32 → XH → Prop} (M : RM T l h) (hr : rq (xI h 108) r) (hro : rOk T r) (P : PR n f h) (k0 : ¬ okSet T r x v → K (nI 0) h) (k1 : okSet T r x v → ∀ h1, NwR T l (n50 n) (pus r f) (setS T (up r (tn x) v)) h h1 → K (nI 1) h1) : ClI 219 [.ref 69, .int x, .int v] h K := by
  have f8 := M.f8
  have l2 := M.l2
  refine B_219_0 M.1 (c_rFact M (fun j hj e => ⟨M.1, ?_⟩) (fun q => ⟨M.1, ?_⟩))
  · subst e
    obtain ⟨e1, m1, m3⟩ := mo_n M.2.2.2.n hj
    have i1 : xI h 80 (8 * l + j) = nI (mo T j) := by rw [← e1]; exact (M.2.2.1.2.2.1 j hj).1
    have e108 : xI h 108 j = r j := by rw [hr j (by omega), sw_n (by omega)]
    rw [M.2.1, show (8 : Int32) * nI l = nI (8 * l) from pk_mul 8 l, nI_add, tn_nI (show 8 * l + j < 2 ^ 31 by omega), i1, tn_nI (show j < 2 ^ 31 by omega)]
    rw [tn_nI (show j < 2 ^ 31 by omega)] at k1
    refine ⟨fun z => absurd z (by decide), fun _ => ⟨inb (by omega) (by decide), c_inM (m := mo T j) M.1 (by omega) (fun m hm e => ⟨M.1, fun z => absurd z (by decide), fun _ => ⟨inb (by omega) (by decide), ?_⟩⟩) (fun q => ⟨M.1, fun _ => ⟨_, rfl, k0 ?_⟩, fun z => absurd rfl z⟩)⟩⟩
    · subst e
      rw [e108]
      refine ⟨fun w => ?_, fun w => ⟨_, rfl, k0 ?_⟩⟩
      · have ok : okSet T r (nI j) (nI m) := ⟨j, m, hj, by show m ≤ mo T j; omega, rfl, rfl, w⟩
        refine c_copies M hr (fun h1 g1 v1 _ => ?_)
        refine ⟨g1.sh M.1 (by decide), inb (by omega) (by decide), c_setR (r := r) (r' := up r j (nI m)) (K := K) M hr P (g1.set (by decide) (by decide)) (by rw [xI_s]; exact rq_u v1 (by omega)) (rSh_up hro.1 (by omega)) (fun h3 N3 => k1 ok h3 N3)⟩
      · rintro ⟨f, m', a1, a2, a3, a4, a5⟩
        have a3 := (nI_eq (by omega) (by omega)).mp a3
        subst a3
        rw [← a4] at a5
        exact a5 (Classical.not_not.mp w)
    · rintro ⟨f, m, a1, a2, a3, a4, a5⟩
      have a3 := (nI_eq (by omega) (by omega)).mp a3
      subst a3
      subst a4
      have a2 : m ≤ mo T j := a2
      exact q.elim (nI_pos (by omega)) (nI_ge (by omega) (by omega))
  · refine ⟨fun _ => ⟨_, rfl, k0 ?_⟩, fun z => absurd rfl z⟩
    rintro ⟨f, m, a1, a2, a3, a4, a5⟩
    subst a3
    exact q.elim (nI_pos (by omega)) (nI_ge a1 (by omega))
theorem c_rWipe {x v : Int32} {n : Nat} {f : Nat → Nat → Int32} {K : Int32 → XH → Prop} (hv : v = 0 ∨ v = 1) (M : RM T l h) (hr : rq (xI h 108) r) (hro : rOk T r) (P : PR n f h) (k0 : ¬ okWipe T r x v → K (nI 0) h) (k1 : okWipe T r x v → ∀ h1, NwR T l (n50 n) (pus r f) (setS T (up r 15 (r 15 ^^^ (1 <<< (x &&& 31))))) h h1 → K (nI 1) h1) : ClI 220 [.ref 69, .int x, .int v] h K := by
  have p6 := M.p6
  refine B_220_0 M.1 (c_rPage M (fun j hj e => ⟨M.1, ?_⟩) (fun q => ⟨M.1, ?_⟩))
  · subst e
    have e14 : xI h 108 (tn 14) = r 15 := by show xI h 108 14 = _; rw [hr 14 (by omega)]; rfl
    rw [e14]
    have go : okWipe T r (nI j) v → ClV 210 [.ref 69] h (fun h3 => Sh h3 ∧ (InB 14 20 ∧ (InB 14 20 ∧ (ClV 164 [.ref 69] (xsI h3 109 (tn 14) ((xI h3 109 (tn 14)) ^^^ (1 <<< (nI j &&& 31)))) (fun h5 => Sh h5 ∧ (ClV 218 [.ref 69] h5 (fun h7 => Sh h7 ∧ (∃ w, Value.int 1 = Value.int w ∧ K w h7)))))))) := by
      intro ok
      refine c_copies M hr (fun h1 g1 v1 _ => ⟨g1.sh M.1 (by decide), inb (k := 14) (by decide) (by decide), inb (k := 14) (by decide) (by decide), ?_⟩)
      have e1 : xI h1 109 (tn 14) = r 15 := by show xI h1 109 14 = _; rw [v1 14 (by omega)]; rfl
      rw [e1, show tn (14 : Int32) = 14 from rfl]
      exact c_setR (r := r) (r' := up r 15 (r 15 ^^^ (1 <<< (nI j &&& 31)))) (K := K) M hr P (g1.set (by decide) (by decide)) (by rw [xI_s]; exact rq_w v1) (rSh_up hro.1 (by omega)) (fun h3 N3 => k1 ok h3 N3)
    have no : (r 15 >>> (nI j &&& 31)) &&& 1 = v → ¬ okWipe T r (nI j) v := by
      rintro q ⟨p, a1, a2, a3⟩
      have a2 := (nI_eq (by omega) (by omega)).mp a2
      subst a2
      exact a3 q
    have an := and1 (r 15 >>> (nI j &&& 31))
    refine ⟨fun z => absurd z (by decide), fun _ => ⟨inb (k := 14) (by decide) (by decide), fun z => ⟨fun y => ?_, fun y => ⟨_, rfl, k0 (no ?_)⟩⟩, fun z => ⟨fun y => ?_, fun y => ⟨_, rfl, k0 (no ?_)⟩⟩⟩⟩
    · exact go ⟨j, hj, rfl, fun q => z (by rw [q, hv.resolve_left (fun e => y e.symm)])⟩
    · rw [← Classical.not_not.mp y]
      exact Classical.byContradiction (fun q => z (an.mpr q))
    · have z := Classical.not_not.mp z
      exact go ⟨j, hj, rfl, fun q => y (by rw [← q, z])⟩
    · rw [← Classical.not_not.mp y]
      exact Classical.not_not.mp z
  · refine ⟨fun _ => ⟨_, rfl, k0 ?_⟩, fun z => absurd rfl z⟩
    rintro ⟨p, a1, a2, a3⟩
    subst a2
    exact q.elim (nI_pos (by omega)) (nI_ge a1 (by omega))
theorem l_rhold {s : Nat} {hb : Nat → Bool} {hf : Nat → Nat → Int32} (hs : Sh h0) (hs3 : s < 3) (hr : rq (xI h0 108) r) (kk : ∀ h1, Gx [123] [] h0 h1 → (∀ i, i < 20 → xI h1 123 (20 * s + i) = sw r i) → (∀ j, (j < 20 * s ∨ 20 * s + 20 ≤ j) → xI h1 123 j = xI h0 123 j) → Q (.int (nI 1)) h1) : ∀ (k i : Nat) (h : XH), i + k = 20 → Gx [123] [] h0 h → (∀ j, j < i → xI h 123 (20 * s + j) = sw r j) → (∀ j, (j < 20 * s ∨ 20 * s + 20 ≤ j) → xI h 123 j = xI h0 123 j) → Ev 264 20 [.ref 69, .int (nI s), .int (nI i)] [] h Q := by
  intro k
  induction k with
  | zero =>
    intro i h hk g h1 h2
    refine B_264_20 (g.sh hs (by decide)) ?_
    try simp (disch := omega) only [lit, tn_nI, z_inb, nI_add, pk_mul, z_le, z_nle, z_lt, z_nlt, z_ne, z_m1, pk_sub, xI_ss, xI_sd, xI_n, eq_self, true_and, and_true, and_self, not_true_eq_false, not_false_eq_true, false_implies, true_implies, implies_true, Classical.not_not, forall_const, true_or, or_true, false_or, or_false, false_and, and_false, if_true, if_false, ite_true, ite_false, reduceIte, reduceCtorEq]
    exact kk h g (fun j hj => h1 j (by omega)) h2
  | succ k ih =>
    intro i h hk g h1 h2
    have e8 : xI h 108 i = sw r i := by rw [g.at (by decide) (by decide)]; exact hr i (by omega)
    refine B_264_20 (g.sh hs (by decide)) ?_
    try simp (disch := omega) only [lit, tn_nI, z_inb, nI_add, pk_mul, z_le, z_nle, z_lt, z_nlt, z_ne, z_m1, pk_sub, xI_ss, xI_sd, xI_n, eq_self, true_and, and_true, and_self, not_true_eq_false, not_false_eq_true, false_implies, true_implies, implies_true, Classical.not_not, forall_const, true_or, or_true, false_or, or_false, false_and, and_false, if_true, if_false, ite_true, ite_false, reduceIte, reduceCtorEq, e8]
    refine ih (i + 1) _ (by omega) (g.set (by decide) (by decide)) (fun j hj => ?_) (fun j hj => ?_)
    · by_cases e : j = i
      · subst e; exact xI_ss
      · rw [xI_sd (by omega)]; exact h1 j (by omega)
    · rw [xI_sd (by omega)]; exact h2 j hj
theorem c_rHold {x : Int32} {hb : Nat → Bool} {hf : Nat → Nat → Int32} {K : Int32 → XH → Prop} (hs : Sh h) (hr : rq (xI h 108) r) (H : HR hb hf h) (k0 : (x < 0 ∨ nI 3 ≤ x) → K (nI 0) h) (k1 : ∀ s, s < 3 → x = nI s → ∀ h1, Gx [122, 123] [] h h1 → HR (upS hb s) (upR hf s r) h1 → K (nI 1) h1) : ClI 264 [.ref 69, .int x] h K := by
  refine B_264_0 hs (c_inM (m := 2) hs (by decide) (fun s hs3 e => ⟨hs, fun _ => ?_, fun z => absurd (by decide : ¬ nI 1 = (0 : Int32)) z⟩) (fun q => ⟨hs, fun z => absurd rfl z, fun _ => ⟨_, rfl, k0 q⟩⟩))
  subst e
  rw [tn_nI (show s < 2 ^ 31 by omega)]
  have g1 : Gx [122, 123] [] h (xsI h 122 s 1) := Gx.rf.set (by decide) (by decide)
  refine ⟨inb (by omega) (by decide), l_rhold (hb := hb) (hf := hf) (r := r) (g1.sh hs (by decide)) (by omega) (by rw [xI_n (by decide)]; exact hr) (fun h2 g2 e1 e2 => ⟨_, rfl, k1 s (by omega) rfl h2 (g1.tr (g2.mono (by decide) (by decide))) (fun j hj => ?_)⟩) 20 0 _ (by decide) Gx.rf (fun j hj => absurd hj (by omega)) (fun _ _ => rfl)⟩
  have H := H j hj
  rw [g2.at (by decide) (by decide)]
  unfold upS upR
  by_cases e : j = s
  · subst e
    rw [if_pos rfl, if_pos rfl, xI_ss, if_pos rfl]
    exact ⟨rfl, fun _ => e1⟩
  · rw [if_neg e, if_neg e, xI_sd e]
    exact ⟨H.1, fun q i hi => by rw [e2 _ (by omega), xI_n (by decide)]; exact H.2 q i hi⟩
theorem l_rrestore {s : Nat} (hs : Sh h0) (hs3 : s < 3) (hq : ∀ i, i < 20 → xI h0 123 (20 * s + i) = sw r i) (kk : ∀ h1, Gx [108] [65] h0 h1 → rq (xI h1 108) r → xI h1 69 65 = nI 0 → Q (.int (nI 1)) h1) : ∀ (k i : Nat) (h : XH), i + k = 20 → Gx [108] [] h0 h → (∀ j, j < i → xI h 108 j = sw r j) → Ev 265 22 [.ref 69, .int (nI s), .int (nI i)] [] h Q := by
  intro k
  induction k with
  | zero =>
    intro i h hk g h1
    refine B_265_22 (g.sh hs (by decide)) ?_
    try simp (disch := omega) only [lit, tn_nI, z_inb, nI_add, pk_mul, z_le, z_nle, z_lt, z_nlt, z_ne, z_m1, pk_sub, xI_ss, xI_sd, xI_n, eq_self, true_and, and_true, and_self, not_true_eq_false, not_false_eq_true, false_implies, true_implies, implies_true, Classical.not_not, forall_const, true_or, or_true, false_or, or_false, false_and, and_false, if_true, if_false, ite_true, ite_false, reduceIte, reduceCtorEq]
    exact kk _ ((g.mono (by decide) (by decide)).fld (by decide)) (fun j hj => by rw [xI_n (by decide)]; exact h1 j (by omega)) xI_ss
  | succ k ih =>
    intro i h hk g h1
    have e8 : xI h 123 (20 * s + i) = sw r i := by rw [g.at (by decide) (by decide)]; exact hq i (by omega)
    refine B_265_22 (g.sh hs (by decide)) ?_
    try simp (disch := omega) only [lit, tn_nI, z_inb, nI_add, pk_mul, z_le, z_nle, z_lt, z_nlt, z_ne, z_m1, pk_sub, xI_ss, xI_sd, xI_n, eq_self, true_and, and_true, and_self, not_true_eq_false, not_false_eq_true, false_implies, true_implies, implies_true, Classical.not_not, forall_const, true_or, or_true, false_or, or_false, false_and, and_false, if_true, if_false, ite_true, ite_false, reduceIte, reduceCtorEq, e8]
    refine ih (i + 1) _ (by omega) (g.set (by decide) (by decide)) (fun j hj => ?_)
    by_cases e : j = i
    · subst e; exact xI_ss
    · rw [xI_sd e]; exact h1 j (by omega)
theorem c_rRestore {x : Int32} {f : Nat → Nat → Int32} {hb : Nat → Bool} {hf : Nat → Nat → Int32} {K : Int32 → XH → Prop} (hs : Sh h) (H : HR hb hf h) (k0 : (¬ ∃ s, s < 3 ∧ x = nI s ∧ hb s = true) → K (nI 0) h) (k1 : ∀ s, s < 3 → x = nI s → hb s = true → ∀ h1, Gx [108] [65] h h1 → rq (xI h1 108) (hf s) → PR 0 f h1 → K (nI 1) h1) : ClI 265 [.ref 69, .int x] h K := by
  refine B_265_0 hs (c_inM (m := 2) hs (by decide) (fun s hs3 e => ⟨hs, fun z => absurd z (by decide), fun _ => ?_⟩) (fun q => ⟨hs, fun _ => ⟨_, rfl, k0 ?_⟩, fun z => absurd rfl z⟩))
  · subst e
    have Hs := H s (by omega)
    rw [tn_nI (show s < 2 ^ 31 by omega), Hs.1]
    refine ⟨inb (by omega) (by decide), fun z => ?_, fun z => ⟨_, rfl, k0 ?_⟩⟩
    · have hbs : hb s = true := Classical.byContradiction (fun q => z (by rw [if_neg q]; rfl))
      exact l_rrestore hs (by omega) (Hs.2 hbs) (fun h1 g1 e1 e2 => ⟨_, rfl, k1 s (by omega) rfl hbs h1 g1 e1 ⟨by omega, e2, fun k hk => absurd hk (by omega)⟩⟩) 20 0 h (by decide) Gx.rf (fun j hj => absurd hj (by omega))
    · rintro ⟨s', a1, a2, a3⟩
      have a2 := (nI_eq (by omega) (by omega)).mp a2
      subst a2
      rw [if_pos a3] at z
      exact absurd (Classical.not_not.mp z) (by decide)
  · rintro ⟨s, a1, a2, a3⟩
    subst a2
    exact q.elim (nI_pos (by omega)) (nI_ge a1 (by decide))
theorem l_rblB (M : RM T l h) (hr : rq (xI h 108) r) (kk : Q (.int (blkB T r)) h) : ∀ (k p : Nat), p + k = tn (T 0 1) → Ev 266 110 [.ref 69, .null, .int (bor (fun p => if r (8 + p) = 4 then bt p else 0) p), .int (nI p)] [] h Q := by
  have p6 := M.p6
  have l2 := M.l2
  have e1 := M.np
  intro k
  induction k with
  | zero =>
    intro p hk
    refine B_266_110 M.1 ?_
    rw [M.2.1, tn_nI (show l < 2 ^ 31 by omega), e1]
    refine ⟨inb (by omega) (by decide), fun _ => ?_, fun z => absurd (nI_le (by omega) (by omega)) z⟩
    unfold blkB at kk
    rw [show p = tn (T 0 1) by omega]
    exact kk
  | succ k ih =>
    intro p hk
    have e8 : xI h 108 (8 + p) = r (8 + p) := by rw [hr _ (by omega), sw_n (by omega)]
    have i1 := ih (p + 1) (by omega)
    have eb : bor (fun p => if r (8 + p) = 4 then bt p else 0) (p + 1) = bor (fun p => if r (8 + p) = 4 then bt p else 0) p ||| (if r (8 + p) = 4 then bt p else 0) := rfl
    rw [eb] at i1
    refine B_266_110 M.1 ?_
    rw [M.2.1, tn_nI (show l < 2 ^ 31 by omega), e1, show (8 : Int32) + nI p = nI (8 + p) from nI_add 8 p, tn_nI (show 8 + p < 2 ^ 31 by omega), e8]
    refine ⟨inb (by omega) (by decide), fun z => absurd z (nI_ge (by omega) (by omega)), fun _ => ⟨inb (by omega) (by decide), fun z => B_266_142 M.1 ?_, fun z => B_266_142 M.1 ?_⟩⟩
    · rw [if_neg z, Int32.or_zero] at i1
      rw [nI_1]
      exact i1
    · rw [if_pos (Classical.not_not.mp z)] at i1
      rw [nI_1]
      exact i1
theorem l_rwho {w : Nat} {B : Int32} (hw : w = 1 ∨ w = 2) (M : RM T l h) (hB : B = bor (fun f => if wh T f = w then bt f else 0) (tn (T 0 0))) (kk : Q (.int B) h) : ∀ (k f : Nat), f + k = tn (T 0 0) → Ev 266 230 [.ref 69, .int (nI (10 + w)), .int (bor (fun f => if wh T f = w then bt f else 0) f), .int (nI f)] [] h Q := by
  have f8 := M.f8
  have l2 := M.l2
  have e1 := M.nf
  intro k
  induction k with
  | zero =>
    intro f hk
    refine B_266_230 M.1 ?_
    rw [M.2.1, tn_nI (show l < 2 ^ 31 by omega), e1]
    refine ⟨inb (by omega) (by decide), fun _ => ?_, fun z => absurd (nI_le (by omega) (by omega)) z⟩
    rw [hB] at kk
    rw [show f = tn (T 0 0) by omega]
    exact kk
  | succ k ih =>
    intro f hk
    obtain ⟨e82, hw2⟩ := M.who (f := f) (by omega)
    have i1 := ih (f + 1) (by omega)
    have eb : bor (fun f => if wh T f = w then bt f else 0) (f + 1) = bor (fun f => if wh T f = w then bt f else 0) f ||| (if wh T f = w then bt f else 0) := rfl
    rw [eb] at i1
    refine B_266_230 M.1 ?_
    rw [M.2.1, tn_nI (show l < 2 ^ 31 by omega), e1, show (8 : Int32) * nI l = nI (8 * l) from pk_mul 8 l, nI_add, tn_nI (show 8 * l + f < 2 ^ 31 by omega), e82, show nI (10 + w) - 10 = nI w by rw [show (10 : Int32) = nI 10 from rfl, pk_sub (by omega), Nat.add_sub_cancel_left]]
    refine ⟨inb (by omega) (by decide), fun z => absurd z (nI_ge (by omega) (by omega)), fun _ => ⟨inb (by omega) (by decide), fun z => B_266_270 M.1 ?_, fun z => B_266_270 M.1 ?_⟩⟩
    · rw [if_neg (fun q => z (by rw [q])), Int32.or_zero] at i1
      rw [nI_1]
      exact i1
    · rw [if_pos ((nI_eq (by omega) (by omega)).mp (Classical.not_not.mp z))] at i1
      rw [nI_1]
      exact i1
theorem who_4 (M : RM T l h) : T 0 4 = bor (fun f => if wh T f = 1 then bt f else 0) (tn (T 0 0)) := by
  have f8 := M.f8
  refine (M.2.2.2.x.2.1).trans (bor_c _ (fun f hf => ?_))
  have b4 := bit_get (x := T 0 4) (f := f) (by omega)
  unfold wh
  by_cases q : gb (T 0 4) f = true
  · rw [if_pos (b4.mpr q), if_pos q, if_pos rfl]
  · rw [if_neg (fun z => q (b4.mp z)), if_neg q]
    by_cases q5 : gb (T 0 5) f = true
    · rw [if_pos q5, if_neg (by decide)]
    · rw [if_neg q5, if_neg (by decide)]
theorem who_5 (M : RM T l h) (hd : tDj T) : T 0 5 = bor (fun f => if wh T f = 2 then bt f else 0) (tn (T 0 0)) := by
  have f8 := M.f8
  refine (M.2.2.2.x.2.2.1).trans (bor_c _ (fun f hf => ?_))
  have b5 := bit_get (x := T 0 5) (f := f) (by omega)
  unfold wh
  by_cases q5 : gb (T 0 5) f = true
  · have q4 : ¬ gb (T 0 4) f = true := fun z => hd f hf ⟨z, q5⟩
    rw [if_pos (b5.mpr q5), if_neg q4, if_pos q5, if_pos rfl]
  · rw [if_neg (fun z => q5 (b5.mp z)), if_neg q5]
    by_cases q4 : gb (T 0 4) f = true
    · rw [if_pos q4, if_neg (by decide)]
    · rw [if_neg q4, if_neg (by decide)]
theorem c_rCount {x : Int32} {tl n sc : Nat} {f : Nat → Nat → Int32} {hb : Nat → Bool} {hf : Nat → Nat → Int32} {K : Int32 → XH → Prop} (M : RM T l h) (hd : tDj T) (hr : rq (xI h 108) r) (P : PR n f h) (H : HR hb hf h) (e2 : xI h 69 2 = nI tl) (e71 : xI h 69 71 = nI sc) (k : K (oCount T r tl n sc hb x) h) : ClI 266 [.ref 69, .int x] h K := by
  unfold oCount at k
  have l2 := M.l2
  have t79 : xI h 79 l = T 0 0 := M.2.2.1.2.1.1
  have t84 : xI h 84 l = T 0 1 := M.2.2.1.2.1.2.2.1
  have t92 : xI h 92 l = T 0 2 := M.2.2.1.2.1.2.2.2.1
  have r14 : xI h 108 (tn 15) = r 14 := by show xI h 108 15 = _; rw [hr 15 (by omega)]; rfl
  have r15 : xI h 108 (tn 14) = r 15 := by show xI h 108 14 = _; rw [hr 14 (by omega)]; rfl
  have r16 : xI h 108 (tn 16) = r 16 := by show xI h 108 16 = _; rw [hr 16 (by omega), sw_n (by omega)]
  have i2 : InB (nI l) 2 := inb (by omega) (by decide)
  refine B_266_0 M.1 ?_
  rw [M.2.1, tn_nI (show l < 2 ^ 31 by omega), t79, t84, t92, r14, r15, r16, e2, P.2.1, e71]
  refine ⟨fun z => ?_, fun z0 => ⟨fun z => ?_, fun z1 => ⟨fun z => ?_, fun z2 => ⟨fun z => ?_, fun z3 => ⟨fun z => ?_, fun z4 => ⟨fun z => ?_, fun z5 => ⟨fun z => ?_, fun z6 => ⟨fun z => ?_, fun z7 => ⟨fun z => ?_, fun z8 => ⟨fun z => ?_, fun z9 => ⟨fun z => ?_, fun z10 => ⟨fun z => ?_, fun z11 => ⟨fun z => ?_, fun z12 => ?_⟩⟩⟩⟩⟩⟩⟩⟩⟩⟩⟩⟩⟩
  · rw [if_pos z] at k; exact ⟨i2, _, rfl, k⟩
  · rw [if_neg z0, if_pos z] at k; exact ⟨i2, _, rfl, k⟩
  · rw [if_neg z0, if_neg z1, if_pos z] at k; exact ⟨inb (k := 15) (by decide) (by decide), _, rfl, k⟩
  · rw [if_neg z0, if_neg z1, if_neg z2, if_pos z] at k; exact ⟨i2, _, rfl, k⟩
  · rw [if_neg z0, if_neg z1, if_neg z2, if_neg z3, if_pos z] at k
    exact l_rblB M hr ⟨_, rfl, k⟩ (tn (T 0 1)) 0 (by omega)
  · rw [if_neg z0, if_neg z1, if_neg z2, if_neg z3, if_neg z4, if_pos z] at k; exact ⟨inb (k := 16) (by decide) (by decide), _, rfl, k⟩
  · rw [if_neg z0, if_neg z1, if_neg z2, if_neg z3, if_neg z4, if_neg z5, if_pos z] at k; exact ⟨inb (k := 14) (by decide) (by decide), _, rfl, k⟩
  · rw [if_neg z0, if_neg z1, if_neg z2, if_neg z3, if_neg z4, if_neg z5, if_neg z6, if_pos z] at k; exact ⟨_, rfl, k⟩
  · rw [if_neg z0, if_neg z1, if_neg z2, if_neg z3, if_neg z4, if_neg z5, if_neg z6, if_neg z7, if_pos z] at k; exact ⟨_, rfl, k⟩
  · rw [if_neg z0, if_neg z1, if_neg z2, if_neg z3, if_neg z4, if_neg z5, if_neg z6, if_neg z7, if_neg z8, if_pos z] at k; exact ⟨_, rfl, k⟩
  · rw [if_neg z0, if_neg z1, if_neg z2, if_neg z3, if_neg z4, if_neg z5, if_neg z6, if_neg z7, if_neg z8, if_neg z9, if_pos z] at k
    have h0 : xI h 122 (tn 0) = (if hb 0 = true then nI 1 else nI 0) := (H 0 (by decide)).1
    have h1 : xI h 122 (tn 1) = (if hb 1 = true then nI 1 else nI 0) := (H 1 (by decide)).1
    have h2 : xI h 122 (tn 2) = (if hb 2 = true then nI 1 else nI 0) := (H 2 (by decide)).1
    rw [h0, h1, h2]
    unfold hN at k
    refine ⟨inb (k := 0) (by decide) (by decide), ?_⟩
    revert k
    cases hb 0 <;> cases hb 1 <;> cases hb 2 <;> simp only [if_true, if_false, Bool.false_eq_true, ite_true, ite_false] <;> intro k
    all_goals first
      | exact ⟨fun _ => ⟨inb (k := 1) (by decide) (by decide), fun _ => ⟨inb (k := 2) (by decide) (by decide), fun _ => ⟨_, rfl, k⟩, fun q => absurd (by decide) q⟩, fun q => absurd (by decide) q⟩, fun q => absurd (by decide) q⟩
      | exact ⟨fun _ => ⟨inb (k := 1) (by decide) (by decide), fun _ => ⟨inb (k := 2) (by decide) (by decide), fun q => absurd q (by decide), fun _ => ⟨_, rfl, k⟩⟩, fun q => absurd (by decide) q⟩, fun q => absurd (by decide) q⟩
      | exact ⟨fun _ => ⟨inb (k := 1) (by decide) (by decide), fun q => absurd q (by decide), fun _ => ⟨inb (k := 2) (by decide) (by decide), fun _ => ⟨_, rfl, k⟩, fun q => absurd (by decide) q⟩⟩, fun q => absurd (by decide) q⟩
      | exact ⟨fun _ => ⟨inb (k := 1) (by decide) (by decide), fun q => absurd q (by decide), fun _ => ⟨inb (k := 2) (by decide) (by decide), fun q => absurd q (by decide), fun _ => ⟨_, rfl, k⟩⟩⟩, fun q => absurd (by decide) q⟩
      | exact ⟨fun q => absurd q (by decide), fun _ => ⟨inb (k := 1) (by decide) (by decide), fun _ => ⟨inb (k := 2) (by decide) (by decide), fun _ => ⟨_, rfl, k⟩, fun q => absurd (by decide) q⟩, fun q => absurd (by decide) q⟩⟩
      | exact ⟨fun q => absurd q (by decide), fun _ => ⟨inb (k := 1) (by decide) (by decide), fun _ => ⟨inb (k := 2) (by decide) (by decide), fun q => absurd q (by decide), fun _ => ⟨_, rfl, k⟩⟩, fun q => absurd (by decide) q⟩⟩
      | exact ⟨fun q => absurd q (by decide), fun _ => ⟨inb (k := 1) (by decide) (by decide), fun q => absurd q (by decide), fun _ => ⟨inb (k := 2) (by decide) (by decide), fun _ => ⟨_, rfl, k⟩, fun q => absurd (by decide) q⟩⟩⟩
      | exact ⟨fun q => absurd q (by decide), fun _ => ⟨inb (k := 1) (by decide) (by decide), fun q => absurd q (by decide), fun _ => ⟨inb (k := 2) (by decide) (by decide), fun q => absurd q (by decide), fun _ => ⟨_, rfl, k⟩⟩⟩⟩
  · rw [if_neg z0, if_neg z1, if_neg z2, if_neg z3, if_neg z4, if_neg z5, if_neg z6, if_neg z7, if_neg z8, if_neg z9, if_neg z10, if_pos z] at k
    subst z
    exact l_rwho (w := 1) (Or.inl rfl) M (who_4 M) ⟨_, rfl, k⟩ (tn (T 0 0)) 0 (by omega)
  · rw [if_neg z0, if_neg z1, if_neg z2, if_neg z3, if_neg z4, if_neg z5, if_neg z6, if_neg z7, if_neg z8, if_neg z9, if_neg z10, if_neg z11, if_pos z] at k
    subst z
    exact l_rwho (w := 2) (Or.inr rfl) M (who_5 M hd) ⟨_, rfl, k⟩ (tn (T 0 0)) 0 (by omega)
  · rw [if_neg z0, if_neg z1, if_neg z2, if_neg z3, if_neg z4, if_neg z5, if_neg z6, if_neg z7, if_neg z8, if_neg z9, if_neg z10, if_neg z11, if_neg z12] at k; exact ⟨_, rfl, k⟩
end RSI

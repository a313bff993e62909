/-! THE TIE: the text in use as the reference holds it, beside the class's words T -/
def rt (h : XH) : Nat → Nat → Int32 := fun a => if 79 ≤ a ∧ a ≤ 104 then xI h a else fun _ => 0
theorem rt_gx {S F : List Nat} {h h1 : XH} (g : Gx S F h h1) (hS : ∀ a ∈ S, a < 79 ∨ 104 < a) : rt h1 = rt h := by
  funext a
  unfold rt
  by_cases ha : 79 ≤ a ∧ a ≤ 104
  · rw [if_pos ha, if_pos ha, g.at (fun q => by have := hS a q; omega) (by omega)]
  · rw [if_neg ha, if_neg ha]
theorem tmV_c {I J : Nat → Nat → Int32} (h3 : I 103 = J 103) (h4 : I 104 = J 104) : tmV I = tmV J := by
  funext v c d
  unfold tmV
  rw [h3, h4]
theorem tmOk_c {I J : Nat → Nat → Int32} (h3 : I 103 = J 103) (h4 : I 104 = J 104) : tmOk I = tmOk J := by
  funext c d
  unfold tmOk
  rw [h3, h4]
/-- the variables, as a row of the class has them -/
def vOk (v r : Nat → Int32) : Prop := (∀ i, i < 14 → v i = r i) ∧ v 15 = r 14
/-- a claim: 0 not true, 1 true, 2 without sense -/
def ck (T : Nat → Nat → Int32) (r : Nat → Int32) (p c : Nat) : Int32 := match rnT T r (T 8 (p * 6 + c)) with
  | none => 2
  | some v => if v = 0 then 0 else 1
theorem ck_hl {T : Nat → Nat → Int32} {r : Nat → Int32} {p c : Nat} : ck T r p c = nI 1 ↔ hl T r p c = true := by
  unfold ck hl
  cases rnT T r (T 8 (p * 6 + c)) with
  | none => exact ⟨fun q => absurd q (by decide), fun q => absurd q (by decide)⟩
  | some v =>
    dsimp only
    by_cases hv : v = 0
    · rw [if_pos hv]; exact ⟨fun q => absurd q (by decide), fun q => absurd hv (of_decide_eq_true q)⟩
    · rw [if_neg hv]; exact ⟨fun _ => decide_eq_true hv, fun _ => rfl⟩
theorem ck_2 {T : Nat → Nat → Int32} {r : Nat → Int32} {p c : Nat} : ck T r p c = nI 2 ↔ hlS T r p c = false := by
  unfold ck hlS
  cases rnT T r (T 8 (p * 6 + c)) with
  | none => exact ⟨fun _ => rfl, fun _ => rfl⟩
  | some v =>
    dsimp only
    by_cases hv : v = 0
    · rw [if_pos hv]; exact ⟨fun q => absurd q (by decide), fun q => Bool.noConfusion q⟩
    · rw [if_neg hv]; exact ⟨fun q => absurd q (by decide), fun q => Bool.noConfusion q⟩
def cmpS (s : Nat) (a b : Int32) : Int32 := if s = 0 then (if b ≤ a then 0 else 1) else if s = 1 then (if a = b then 1 else 0) else (if a ≤ b then 0 else 1)
def cl2 (I : Nat → Nat → Int32) (v : Nat → Int32) (a b d s : Nat) : Int32 := match tmV I v a b with
  | some (x :: _) => match tmV I v b d with
    | some (y :: _) => cmpS s x y
    | _ => 2
  | _ => 2
/-- claim x of the reference is claim c of page p -/
def clT (T I : Nat → Nat → Int32) (p c x : Nat) : Prop := ∃ a b d s, I 89 x = nI a ∧ I 90 x = nI b ∧ I 91 x = nI d ∧ I 88 x = nI s ∧ s ≤ 2 ∧ tmOk I a b ∧ tmOk I b d ∧ ∀ r v, vOk v r → v 14 = r (8 + p) → cl2 I v a b d s = ck T r p c
theorem c_claimIs {h : XH} {T : Nat → Nat → Int32} {r : Nat → Int32} {p c x : Nat} {K : Int32 → XH → Prop} (hs : Sh h) (ht : clT T (rt h) p c x) (hp : p < 6) (hx : x < 72) (hv : vOk (xI h 106) r) (k : ∀ h1, Gx [106, 107] [58] h h1 → vOk (xI h1 106) r → K (ck T r p c) h1) : ClI 170 [.ref 69, .int (nI p), .int (nI x)] h K := by
  obtain ⟨a, b, d, s, e9, e0, e1, e8, hs2, o1, o2, hall⟩ := ht
  refine B_170_0 hs ?_
  simp (disch := omega) only [lit, tn_nI, z_inb, nI_add, pk_mul, z_le, z_nle, z_lt, z_nlt, z_ne, z_m1, pk_sub, xI_ss, xI_sd, xI_n, eq_self, true_and, and_true, and_self, not_true_eq_false, not_false_eq_true, false_implies, true_implies, implies_true, Classical.not_not, forall_const, true_or, or_true, false_or, or_false, false_and, and_false, if_true, if_false, ite_true, ite_false, reduceIte, reduceCtorEq]
  have g' : Gx [106, 107] [58] h (xsI (xsI h 106 14 (xI h 106 (8 + p))) 69 58 (nI 0)) := (Gx.rf.set (by decide) (by decide)).fld (by decide)
  have b' : xI (xsI (xsI h 106 14 (xI h 106 (8 + p))) 69 58 (nI 0)) 69 58 = nI 0 := by rw [xI_s]; exact up_same
  have v' : xI (xsI (xsI h 106 14 (xI h 106 (8 + p))) 69 58 (nI 0)) 106 = up (xI h 106) 14 (xI h 106 (8 + p)) := by rw [xI_n (by decide), xI_s]
  generalize xsI (xsI h 106 14 (xI h 106 (8 + p))) 69 58 (nI 0) = h' at g' b' v' ⊢
  have hs' := g'.sh hs (by decide)
  have hv' : vOk (xI h' 106) r := by
    rw [v']
    exact ⟨fun i hi => by rw [up_ne (by omega)]; exact hv.1 i hi, by rw [up_ne (by decide)]; exact hv.2⟩
  have hv14 : xI h' 106 14 = r (8 + p) := by rw [v', up_same]; exact hv.1 _ (by omega)
  have hr' := hall r (xI h' 106) hv' hv14
  have i3 : xI h' 103 = rt h 103 := g'.at (by decide) (by decide)
  have i4 : xI h' 104 = rt h 104 := g'.at (by decide) (by decide)
  have i9 : xI h' 89 x = nI a := by rw [g'.at (by decide) (by decide)]; exact e9
  have i0 : xI h' 90 x = nI b := by rw [g'.at (by decide) (by decide)]; exact e0
  have iV := tmV_c i3 i4
  have iO := tmOk_c i3 i4
  rw [show xI h 89 x = nI a from e9, show xI h 90 x = nI b from e0]
  unfold cl2 at hr'
  refine c_termOf hs' (by rw [iO]; exact o1) (fun h1 => ⟨fun hn g1 eb => ?_, fun u hn g1 => ?_⟩)
  · rw [iV] at hn
    rw [hn] at hr'
    refine ⟨g1.sh hs' (by decide), ?_⟩
    simp (disch := omega) only [lit, tn_nI, z_inb, nI_add, pk_mul, z_le, z_nle, z_lt, z_nlt, z_ne, z_m1, pk_sub, xI_ss, xI_sd, xI_n, eq_self, true_and, and_true, and_self, not_true_eq_false, not_false_eq_true, false_implies, true_implies, implies_true, Classical.not_not, forall_const, true_or, or_true, false_or, or_false, false_and, and_false, if_true, if_false, ite_true, ite_false, reduceIte, reduceCtorEq, eb]
    refine ⟨_, rfl, ?_⟩
    rw [show nI 2 = ck T r p c from hr']
    exact k h1 (g'.trm g1 (by decide) (by decide) (by decide) (by decide)) (by rw [g1.at (by decide) (by decide)]; exact hv')
  · rw [iV] at hn
    rw [hn] at hr'
    have hs1 := g1.sh hs' (by decide)
    refine ⟨hs1, ?_⟩
    have eb : xI h1 69 58 = nI 0 := (g1.f (by decide)).trans b'
    have j0 : xI h1 90 x = nI b := by rw [g1.at (by decide) (by decide)]; exact i0
    have j1 : xI h1 91 x = nI d := by rw [g1.at (by decide) (by decide), g'.at (by decide) (by decide)]; exact e1
    have j3 : xI h1 103 = rt h 103 := (g1.at (by decide) (by decide)).trans i3
    have j4 : xI h1 104 = rt h 104 := (g1.at (by decide) (by decide)).trans i4
    have j6 : xI h1 106 = xI h' 106 := g1.at (by decide) (by decide)
    have jV := tmV_c j3 j4
    have jO := tmOk_c j3 j4
    have g1' : Gx [106, 107] [58] h h1 := g'.trm g1 (by decide) (by decide) (by decide) (by decide)
    simp (disch := omega) only [lit, tn_nI, z_inb, nI_add, pk_mul, z_le, z_nle, z_lt, z_nlt, z_ne, z_m1, pk_sub, xI_ss, xI_sd, xI_n, eq_self, true_and, and_true, and_self, not_true_eq_false, not_false_eq_true, false_implies, true_implies, implies_true, Classical.not_not, forall_const, true_or, or_true, false_or, or_false, false_and, and_false, if_true, if_false, ite_true, ite_false, reduceIte, reduceCtorEq, eb, j0, j1]
    refine c_termOf hs1 (by rw [jO]; exact o2) (fun h2 => ⟨fun hn2 g2 eb2 => ?_, fun w hn2 g2 => ?_⟩)
    · rw [jV, j6] at hn2
      rw [hn2] at hr'
      refine ⟨g2.sh hs1 (by decide), ?_⟩
      simp (disch := omega) only [lit, tn_nI, z_inb, nI_add, pk_mul, z_le, z_nle, z_lt, z_nlt, z_ne, z_m1, pk_sub, xI_ss, xI_sd, xI_n, eq_self, true_and, and_true, and_self, not_true_eq_false, not_false_eq_true, false_implies, true_implies, implies_true, Classical.not_not, forall_const, true_or, or_true, false_or, or_false, false_and, and_false, if_true, if_false, ite_true, ite_false, reduceIte, reduceCtorEq, eb2]
      refine ⟨_, rfl, ?_⟩
      rw [show nI 2 = ck T r p c from hr']
      exact k h2 (g1'.trm g2 (by decide) (by decide) (by decide) (by decide)) (by rw [g2.at (by decide) (by decide), j6]; exact hv')
    · rw [jV, j6] at hn2
      rw [hn2] at hr'
      refine ⟨g2.sh hs1 (by decide), ?_⟩
      have eb2 : xI h2 69 58 = nI 0 := (g2.f (by decide)).trans eb
      have l8 : xI h2 88 x = nI s := by rw [g2.at (by decide) (by decide), g1.at (by decide) (by decide), g'.at (by decide) (by decide)]; exact e8
      have kk := k h2 (g1'.trm g2 (by decide) (by decide) (by decide) (by decide)) (by rw [g2.at (by decide) (by decide), j6]; exact hv')
      rw [← hr'] at kk
      dsimp only at kk
      unfold cmpS at kk
      rcases (show s = 0 ∨ s = 1 ∨ s = 2 by omega) with rfl | rfl | rfl
      · simp (disch := omega) only [lit, tn_nI, z_inb, nI_add, pk_mul, z_le, z_nle, z_lt, z_nlt, z_ne, z_m1, pk_sub, xI_ss, xI_sd, xI_n, eq_self, true_and, and_true, and_self, not_true_eq_false, not_false_eq_true, false_implies, true_implies, implies_true, Classical.not_not, forall_const, true_or, or_true, false_or, or_false, false_and, and_false, if_true, if_false, ite_true, ite_false, reduceIte, reduceCtorEq, eb2, l8]
        simp only [if_true] at kk
        exact ⟨fun z => ⟨_, rfl, by rw [if_pos z] at kk; exact kk⟩, fun z => ⟨_, rfl, by rw [if_neg z] at kk; exact kk⟩⟩
      · simp (disch := omega) only [lit, tn_nI, z_inb, nI_add, pk_mul, z_le, z_nle, z_lt, z_nlt, z_ne, z_m1, pk_sub, xI_ss, xI_sd, xI_n, eq_self, true_and, and_true, and_self, not_true_eq_false, not_false_eq_true, false_implies, true_implies, implies_true, Classical.not_not, forall_const, true_or, or_true, false_or, or_false, false_and, and_false, if_true, if_false, ite_true, ite_false, reduceIte, reduceCtorEq, eb2, l8]
        simp only [if_true, if_neg (show ¬ 1 = 0 by decide)] at kk
        exact ⟨fun z => ⟨_, rfl, by rw [if_neg z] at kk; exact kk⟩, fun z => ⟨_, rfl, by rw [if_pos z] at kk; exact kk⟩⟩
      · simp (disch := omega) only [lit, tn_nI, z_inb, nI_add, pk_mul, z_le, z_nle, z_lt, z_nlt, z_ne, z_m1, pk_sub, xI_ss, xI_sd, xI_n, eq_self, true_and, and_true, and_self, not_true_eq_false, not_false_eq_true, false_implies, true_implies, implies_true, Classical.not_not, forall_const, true_or, or_true, false_or, or_false, false_and, and_false, if_true, if_false, ite_true, ite_false, reduceIte, reduceCtorEq, eb2, l8]
        simp only [if_neg (show ¬ 2 = 0 by decide), if_neg (show ¬ 2 = 1 by decide)] at kk
        exact ⟨fun z => ⟨_, rfl, by rw [if_pos z] at kk; exact kk⟩, fun z => ⟨_, rfl, by rw [if_neg z] at kk; exact kk⟩⟩
/-- page p of the side l is page p of T -/
def pgT (T I : Nat → Nat → Int32) (l p : Nat) : Prop := I 85 (6 * l + p) = T 5 p ∧ ∃ x n, I 86 (6 * l + p) = nI x ∧ I 87 (6 * l + p) = nI (x + n) ∧ x + n ≤ 72 ∧ 1 ≤ n ∧ n ≤ 6 ∧ T 6 p = nI n ∧ ∀ c, c < n → clT T I p c (x + c)
theorem l_trueOf {h0 : XH} {T : Nat → Nat → Int32} {r : Nat → Int32} {Q : Value → XH → Prop} {l p x n : Nat} (hs0 : Sh h0) (hl2 : l < 2) (hp : p < 6) (e7 : rt h0 87 (6 * l + p) = nI (x + n)) (hxn : x + n ≤ 72) (hc : ∀ c, c < n → clT T (rt h0) p c (x + c)) (kk : ∀ h1, Gx [106, 107] [58] h0 h1 → vOk (xI h1 106) r → Q (.int (tc T r p n)) h1) :
    ∀ (m c : Nat) (h : XH), c + m = n → Gx [106, 107] [58] h0 h → vOk (xI h 106) r → Ev 169 20 [.ref 69, .int (nI p), .int (nI (6 * l + p)), .int (tc T r p c), .int (nI (x + c))] [] h Q := by
  intro m
  induction m with
  | zero =>
    intro c h hm g hv
    have e : xI h 87 (6 * l + p) = nI (x + n) := by rw [g.at (by decide) (by decide)]; exact e7
    refine B_169_20 (g.sh hs0 (by decide)) ?_
    simp (disch := omega) only [lit, tn_nI, z_inb, nI_add, pk_mul, z_le, z_nle, z_lt, z_nlt, z_ne, z_m1, pk_sub, xI_ss, xI_sd, xI_n, eq_self, true_and, and_true, and_self, not_true_eq_false, not_false_eq_true, false_implies, true_implies, implies_true, Classical.not_not, forall_const, true_or, or_true, false_or, or_false, false_and, and_false, if_true, if_false, ite_true, ite_false, reduceIte, reduceCtorEq, e]
    rw [show c = n by omega]
    exact kk h g hv
  | succ m ih =>
    intro c h hm g hv
    have hs := g.sh hs0 (by decide)
    have e : xI h 87 (6 * l + p) = nI (x + n) := by rw [g.at (by decide) (by decide)]; exact e7
    refine B_169_20 hs ?_
    simp (disch := omega) only [lit, tn_nI, z_inb, nI_add, pk_mul, z_le, z_nle, z_lt, z_nlt, z_ne, z_m1, pk_sub, xI_ss, xI_sd, xI_n, eq_self, true_and, and_true, and_self, not_true_eq_false, not_false_eq_true, false_implies, true_implies, implies_true, Classical.not_not, forall_const, true_or, or_true, false_or, or_false, false_and, and_false, if_true, if_false, ite_true, ite_false, reduceIte, reduceCtorEq, e]
    refine c_claimIs (T := T) (c := c) hs (by rw [rt_gx g (by decide)]; exact hc c (by omega)) hp (by omega) hv (fun h1 g1 hv1 => ⟨g1.sh hs (by decide), ?_⟩)
    have g2 := g.tr g1
    have e2 : tc T r p (c + 1) = if hl T r p c = true then tc T r p c + 1 else tc T r p c := rfl
    by_cases hh : hl T r p c = true
    · rw [ck_hl.mpr hh]
      simp (disch := omega) only [lit, tn_nI, z_inb, nI_add, pk_mul, z_le, z_nle, z_lt, z_nlt, z_ne, z_m1, pk_sub, xI_ss, xI_sd, xI_n, eq_self, true_and, and_true, and_self, not_true_eq_false, not_false_eq_true, false_implies, true_implies, implies_true, Classical.not_not, forall_const, true_or, or_true, false_or, or_false, false_and, and_false, if_true, if_false, ite_true, ite_false, reduceIte, reduceCtorEq]
      have := ih (c + 1) h1 (by omega) g2 hv1
      rw [show tc T r p (c + 1) = tc T r p c + nI 1 by rw [e2, if_pos hh]; rfl] at this
      exact this
    · have hne : ¬ ck T r p c = nI 1 := fun q => hh (ck_hl.mp q)
      simp (disch := omega) only [lit, tn_nI, z_inb, nI_add, pk_mul, z_le, z_nle, z_lt, z_nlt, z_ne, z_m1, pk_sub, xI_ss, xI_sd, xI_n, eq_self, true_and, and_true, and_self, not_true_eq_false, not_false_eq_true, false_implies, true_implies, implies_true, Classical.not_not, forall_const, true_or, or_true, false_or, or_false, false_and, and_false, if_true, if_false, ite_true, ite_false, reduceIte, reduceCtorEq, hne]
      have := ih (c + 1) h1 (by omega) g2 hv1
      rw [show tc T r p (c + 1) = tc T r p c by rw [e2, if_neg hh]] at this
      exact this
theorem c_trueOf {h : XH} {T : Nat → Nat → Int32} {r : Nat → Int32} {l p : Nat} {K : Int32 → XH → Prop} (hs : Sh h) (hl2 : l < 2) (hp : p < 6) (e18 : xI h 69 18 = nI l) (ht : pgT T (rt h) l p) (hv : vOk (xI h 106) r) (k : ∀ h1, Gx [106, 107] [58] h h1 → vOk (xI h1 106) r → K (tc T r p (tn (T 6 p))) h1) : ClI 169 [.ref 69, .int (nI p)] h K := by
  obtain ⟨e5, x, n, e6, e7, hxn, h1, h6, eT, hc⟩ := ht
  refine B_169_0 hs ?_
  have e6' : xI h 86 (6 * l + p) = nI x := e6
  simp (disch := omega) only [lit, tn_nI, z_inb, nI_add, pk_mul, z_le, z_nle, z_lt, z_nlt, z_ne, z_m1, pk_sub, xI_ss, xI_sd, xI_n, eq_self, true_and, and_true, and_self, not_true_eq_false, not_false_eq_true, false_implies, true_implies, implies_true, Classical.not_not, forall_const, true_or, or_true, false_or, or_false, false_and, and_false, if_true, if_false, ite_true, ite_false, reduceIte, reduceCtorEq, e18, e6']
  rw [eT, tn_nI (by omega)] at k
  exact l_trueOf (x := x) (T := T) hs hl2 hp e7 hxn hc (fun h1 g v => ⟨_, rfl, k h1 g v⟩) n 0 h (by omega) Gx.rf hv
/-- a row of the reference, beside one of the class: day and wiped stand the other way round -/
def sw (r : Nat → Int32) : Nat → Int32 := fun i => if i = 14 then r 15 else if i = 15 then r 14 else r i
def rq (s r : Nat → Int32) : Prop := ∀ i, i < 20 → s i = sw r i
theorem c_shadeNext {h : XH} {T : Nat → Nat → Int32} {r : Nat → Int32} {l p : Nat} {K : Int32 → XH → Prop} (hs : Sh h) (hl : l < 2) (hp : p < 6) (e18 : xI h 69 18 = nI l) (ht : pgT T (rt h) l p) (hm : ∃ m, m ≤ 2 ∧ T 5 p = nI m) (hr : rq (xI h 109) r) (hv : vOk (xI h 106) r) (k : ∀ h1, Gx [106, 107] [58] h h1 → vOk (xI h1 106) r → K (shNx T r p) h1) : ClI 168 [.ref 69, .int (nI p)] h K := by
  obtain ⟨e5, x, n, e6, e7, hxn, h1, h6, eT, hc⟩ := id ht
  obtain ⟨m, hm2, em⟩ := hm
  refine B_168_0 hs ?_
  have e14 : xI h 109 14 = r 15 := hr 14 (by decide)
  have e6' : xI h 86 (6 * l + p) = nI x := e6
  have e7' : xI h 87 (6 * l + p) = nI (x + n) := e7
  simp (disch := omega) only [lit, tn_nI, z_inb, nI_add, pk_mul, z_le, z_nle, z_lt, z_nlt, z_ne, z_m1, pk_sub, xI_ss, xI_sd, xI_n, eq_self, true_and, and_true, and_self, not_true_eq_false, not_false_eq_true, false_implies, true_implies, implies_true, Classical.not_not, forall_const, true_or, or_true, false_or, or_false, false_and, and_false, if_true, if_false, ite_true, ite_false, reduceIte, reduceCtorEq, e18, e6', e7', e14]
  refine ⟨fun z => ?_, fun z => ⟨_, rfl, ?_⟩⟩
  · refine c_trueOf (T := T) hs hl hp e18 ht hv (fun h1 g1 hv1 => ⟨g1.sh hs (by decide), ?_⟩)
    have e5' : xI h1 85 (6 * l + p) = nI m := by rw [g1.at (by decide) (by decide), ← em]; exact e5
    have kk := k h1 g1 hv1
    have z' : ¬ (r 15 >>> (nI p &&& 31)) &&& 1 = 1 := z
    unfold shNx shB at kk
    rw [if_neg z', eT, em, tn_nI (by omega)] at kk
    rw [eT, tn_nI (by omega), show x + n - x = n by omega]
    rcases (show m = 0 ∨ m = 1 ∨ m = 2 by omega) with rfl | rfl | rfl
    · simp (disch := omega) only [lit, tn_nI, z_inb, nI_add, pk_mul, z_le, z_nle, z_lt, z_nlt, z_ne, z_m1, pk_sub, xI_ss, xI_sd, xI_n, eq_self, true_and, and_true, and_self, not_true_eq_false, not_false_eq_true, false_implies, true_implies, implies_true, Classical.not_not, forall_const, true_or, or_true, false_or, or_false, false_and, and_false, if_true, if_false, ite_true, ite_false, reduceIte, reduceCtorEq, e5']
      rw [if_pos (show nI 0 = 0 from rfl)] at kk
      exact ⟨fun y => ⟨_, rfl, by rw [if_pos y] at kk; exact kk⟩, fun y => ⟨_, rfl, by rw [if_neg (not_not_intro y)] at kk; exact kk⟩⟩
    · simp (disch := omega) only [lit, tn_nI, z_inb, nI_add, pk_mul, z_le, z_nle, z_lt, z_nlt, z_ne, z_m1, pk_sub, xI_ss, xI_sd, xI_n, eq_self, true_and, and_true, and_self, not_true_eq_false, not_false_eq_true, false_implies, true_implies, implies_true, Classical.not_not, forall_const, true_or, or_true, false_or, or_false, false_and, and_false, if_true, if_false, ite_true, ite_false, reduceIte, reduceCtorEq, e5']
      rw [if_neg (by decide), if_pos (show nI 1 = 1 from rfl)] at kk
      simp only [lit] at kk
      exact ⟨fun y => ⟨_, rfl, by rw [if_pos y] at kk; exact kk⟩, fun y => ⟨_, rfl, by rw [if_neg y] at kk; exact kk⟩⟩
    · simp (disch := omega) only [lit, tn_nI, z_inb, nI_add, pk_mul, z_le, z_nle, z_lt, z_nlt, z_ne, z_m1, pk_sub, xI_ss, xI_sd, xI_n, eq_self, true_and, and_true, and_self, not_true_eq_false, not_false_eq_true, false_implies, true_implies, implies_true, Classical.not_not, forall_const, true_or, or_true, false_or, or_false, false_and, and_false, if_true, if_false, ite_true, ite_false, reduceIte, reduceCtorEq, e5']
      rw [if_neg (by decide), if_neg (by decide), if_neg (nI_nle (by omega) (by omega))] at kk
      exact ⟨_, rfl, kk⟩
  · have kk := k h Gx.rf hv
    have z' : (r 15 >>> (nI p &&& 31)) &&& 1 = 1 := z
    unfold shNx at kk
    rw [if_pos z'] at kk
    exact kk

/-! THE REFERENCE: settling, its loops -/
theorem stR_same {T : Nat → Nat → Int32} {r : Nat → Int32} (h : ∀ p, p < tn (T 0 1) → shNx T r p = r (8 + p)) : stR T r = r := by
  funext i
  unfold stR
  by_cases q : 8 ≤ i ∧ i < 8 + tn (T 0 1)
  · rw [if_pos q, h (i - 8) (by omega), show 8 + (i - 8) = i by omega]
  · rw [if_neg q]
theorem stR_of {T : Nat → Nat → Int32} {r : Nat → Int32} : shOf (stR T r) (tn (T 0 1)) 0 = stN T r (tn (T 0 1)) 0 := by
  rw [stN_sh]
  refine shOf_l _ _ (fun p hp => ?_)
  unfold stR
  rw [if_pos (by omega)]
section SE
variable {T : Nat → Nat → Int32} {l : Nat} {h0 : XH} {Q : Value → XH → Prop}
theorem l_sb {k : Nat} {s : Int32} {r b : Nat → Int32} {h : XH} (M : RM T l h) (hk : k ≤ 300) (hb : ∀ i, i < k → ∃ a, a < 15625 ∧ b i = nI a) (h11 : ∀ i, i < k → xI h 111 i = b i) (hr : rq (xI h 109) (rw_end r 0 (nI k) 0 0))
    (kf : ∀ j, j < k → b j = s → ∀ h1, Gx [109] [] h h1 → rq (xI h1 109) (rw_end r 1 (nI k) (nI (k - j)) (blO b r (k - j) j (tn (T 0 1)) 0 0)) → Q .null h1)
    (kw : k = 300 → (∀ q, q < k → b q ≠ s) → ∀ h1, Gx [109] [] h h1 → rq (xI h1 109) (rw_end r 2 (nI k) 0 0) → Q .null h1)
    (kn : k < 300 → (∀ q, q < k → b q ≠ s) → Ev 164 42 [.ref 69, .null, .null] [] h Q) :
    ∀ m i, i + m = k → (∀ q, q < i → b q ≠ s) → Ev 164 80 [.ref 69, .int s, .int (nI i)] [] h Q := by
  have e : xI h 109 18 = nI k := (hr 18 (by decide)).trans rfl
  intro m
  induction m with
  | zero =>
    intro i hm hq
    refine B_164_80 M.1 ?_
    have hq' : ∀ q, q < k → b q ≠ s := fun q hq2 => hq q (by omega)
    by_cases e3 : k = 300
    · rw [e3] at e
      simp (disch := omega) only [lit, tn_nI, z_inb, nI_add, pk_mul, z_le, z_nle, z_lt, z_nlt, z_ne, z_m1, pk_sub, xI_ss, xI_sd, xI_n, eq_self, true_and, and_true, and_self, not_true_eq_false, not_false_eq_true, false_implies, true_implies, implies_true, Classical.not_not, forall_const, true_or, or_true, false_or, or_false, false_and, and_false, if_true, if_false, ite_true, ite_false, reduceIte, reduceCtorEq, e]
      refine kw e3 hq' _ (Gx.rf.set (by decide) (by decide)) ?_
      have := rq_s (v := nI 2) hr (j := 17) (by decide)
      rw [rwe_17] at this
      exact this
    · simp (disch := omega) only [lit, tn_nI, z_inb, nI_add, pk_mul, z_le, z_nle, z_lt, z_nlt, z_ne, z_m1, pk_sub, xI_ss, xI_sd, xI_n, eq_self, true_and, and_true, and_self, not_true_eq_false, not_false_eq_true, false_implies, true_implies, implies_true, Classical.not_not, forall_const, true_or, or_true, false_or, or_false, false_and, and_false, if_true, if_false, ite_true, ite_false, reduceIte, reduceCtorEq, e]
      exact kn (by omega) hq'
  | succ m ih =>
    intro i hm hq
    refine B_164_80 M.1 ?_
    have e2 := h11 i (by omega)
    simp (disch := omega) only [lit, tn_nI, z_inb, nI_add, pk_mul, z_le, z_nle, z_lt, z_nlt, z_ne, z_m1, pk_sub, xI_ss, xI_sd, xI_n, eq_self, true_and, and_true, and_self, not_true_eq_false, not_false_eq_true, false_implies, true_implies, implies_true, Classical.not_not, forall_const, true_or, or_true, false_or, or_false, false_and, and_false, if_true, if_false, ite_true, ite_false, reduceIte, reduceCtorEq, e, e2]
    refine ⟨fun z => c_blinks M hb h11 hk (by omega) hr (fun h1 g1 hr1 => ⟨g1.sh M.1 (by decide), kf i (by omega) z h1 g1 hr1⟩), fun z => ih (i + 1) (by omega) (fun q hq2 => ?_)⟩
    by_cases q2 : q = i
    · subst q2; exact z
    · exact hq q (by omega)
theorem l_se1 {m f : Nat} {r b : Nat → Int32} {h : XH} (M : RM T l h) (hf : m + 1 + f = 300) (hr : rq (xI h 109) (rw_end r 0 (nI m) 0 0)) (h11 : ∀ i, i < m + 1 → xI h 111 i = b i) (hb : ∀ i, i < m + 1 → ∃ a, a < 15625 ∧ b i = nI a) (inj : ∀ i j, i < j → j < m + 1 → b i ≠ b j) (hsh : rSh T r) (hbk : b m = shOf r 6 0)
    (kk : ∀ h1, Gx [106, 107, 109, 110, 111] [58] h h1 → rq (xI h1 109) (setl T (tn (T 0 1)) (f + 1) (m + 1) b r) → Q .null h1)
    (kn : 1 ≤ f → setl T (tn (T 0 1)) (f + 1) (m + 1) b r = setl T (tn (T 0 1)) f (m + 2) (up b (m + 1) (stN T r (tn (T 0 1)) 0)) (stR T r) → (∀ q, q < m + 1 → b q ≠ stN T r (tn (T 0 1)) 0) → ∀ h1, Gx [106, 107, 109, 110, 111] [58] h h1 → rq (xI h1 109) (rw_end (stR T r) 0 (nI (m + 1)) 0 0) → (∀ i, i < m + 2 → xI h1 111 i = up b (m + 1) (stN T r (tn (T 0 1)) 0) i) → Ev 164 42 [.ref 69, .null, .null] [] h1 Q) :
    Ev 164 42 [.ref 69, .null, .null] [] h Q := by
  have p6 := M.p6
  have hc := M.2.2.2.cv
  have hn := M.2.2.2.n
  have hpt := ptS_st hn p6 hsh
  have hst := st_eq hn p6 hsh
  rw [← hbk] at hst
  have hset : setl T (tn (T 0 1)) (f + 1) (m + 1) b r = if stN T r (tn (T 0 1)) 0 = b m then rw_end r 0 (nI m) 0 0
    else match fnd b (stN T r (tn (T 0 1)) 0) m with
      | some j => rw_end (stR T r) 1 (nI (m + 1)) (nI (m + 1 - j)) (unO b (tn (T 0 1)) j (m + 1 - (j + 1)) (j + 1) 0)
      | none => setl T (tn (T 0 1)) f (m + 2) (up b (m + 1) (stN T r (tn (T 0 1)) 0)) (stR T r) := by
    rw [setl, hpt]
    rfl
  refine B_164_42 M.1 (c_steps M hr (fun h1 g1 hr1 => ⟨g1.sh M.1 (by decide), ?_⟩))
  have M1 := M.gx g1 (by decide) (by decide)
  rw [chg_eq hc rwe_Eq _ p6]
  rw [stR_rwe hc p6] at hr1
  rcases chg_01 (T := T) (r := r) (tn (T 0 1)) with e | e
  · rw [e]
    simp (disch := omega) only [lit, tn_nI, z_inb, nI_add, pk_mul, z_le, z_nle, z_lt, z_nlt, z_ne, z_m1, pk_sub, xI_ss, xI_sd, xI_n, eq_self, true_and, and_true, and_self, not_true_eq_false, not_false_eq_true, false_implies, true_implies, implies_true, Classical.not_not, forall_const, true_or, or_true, false_or, or_false, false_and, and_false, if_true, if_false, ite_true, ite_false, reduceIte, reduceCtorEq]
    have hsame := (chg_0 _).mp e
    refine kk h1 (g1.mono (by decide) (by decide)) ?_
    rw [hset, if_pos (hst.mpr hsame)]
    rw [stR_same hsame] at hr1
    exact hr1
  · have hne : ¬ stN T r (tn (T 0 1)) 0 = b m := fun q => absurd ((chg_0 _).mpr (hst.mp q)) (by rw [e]; decide)
    rw [if_neg hne] at hset
    have e18 : xI h1 109 18 = nI m := (hr1 18 (by decide)).trans rfl
    rw [e]
    simp (disch := omega) only [lit, tn_nI, z_inb, nI_add, pk_mul, z_le, z_nle, z_lt, z_nlt, z_ne, z_m1, pk_sub, xI_ss, xI_sd, xI_n, eq_self, true_and, and_true, and_self, not_true_eq_false, not_false_eq_true, false_implies, true_implies, implies_true, Classical.not_not, forall_const, true_or, or_true, false_or, or_false, false_and, and_false, if_true, if_false, ite_true, ite_false, reduceIte, reduceCtorEq, e18]
    have g2 : Gx [106, 107, 109, 110, 111] [58] h (xsI h1 109 18 (nI (m + 1))) := (g1.mono (S' := [106, 107, 109, 110, 111]) (by decide) (by decide)).set (by decide) (by decide)
    have M2 := M.gx g2 (by decide) (by decide)
    have hr2 : rq (xI (xsI h1 109 18 (nI (m + 1))) 109) (rw_end (stR T r) 0 (nI (m + 1)) 0 0) := by
      have := rq_s (v := nI (m + 1)) hr1 (j := 18) (by decide)
      rw [rwe_18] at this
      exact this
    refine c_shNow M2 hr2 ⟨M2.1, ?_⟩
    rw [shOf_eq rwe_Eq _ _ p6, stR_of]
    have e111 : xI (xsI h1 109 18 (nI (m + 1))) 111 = xI h 111 := (xI_n (by decide)).trans (g1.at (by decide) (by decide))
    generalize xsI h1 109 18 (nI (m + 1)) = h2 at g2 M2 hr2 e111 ⊢
    have e18' : xI h2 109 18 = nI (m + 1) := (hr2 18 (by decide)).trans rfl
    simp (disch := omega) only [lit, tn_nI, z_inb, nI_add, pk_mul, z_le, z_nle, z_lt, z_nlt, z_ne, z_m1, pk_sub, xI_ss, xI_sd, xI_n, eq_self, true_and, and_true, and_self, not_true_eq_false, not_false_eq_true, false_implies, true_implies, implies_true, Classical.not_not, forall_const, true_or, or_true, false_or, or_false, false_and, and_false, if_true, if_false, ite_true, ite_false, reduceIte, reduceCtorEq, e18']
    have g3 : Gx [106, 107, 109, 110, 111] [58] h (xsI h2 111 (m + 1) (stN T r (tn (T 0 1)) 0)) := g2.set (by decide) (by decide)
    have M3 := M.gx g3 (by decide) (by decide)
    have hr3 : rq (xI (xsI h2 111 (m + 1) (stN T r (tn (T 0 1)) 0)) 109) (rw_end (stR T r) 0 (nI (m + 1)) 0 0) := by rw [xI_n (by decide)]; exact hr2
    have h3 : ∀ i, i < m + 1 → xI (xsI h2 111 (m + 1) (stN T r (tn (T 0 1)) 0)) 111 i = b i := fun i hi => by rw [xI_sd (by omega), e111]; exact h11 i hi
    have h3' : ∀ i, i < m + 2 → xI (xsI h2 111 (m + 1) (stN T r (tn (T 0 1)) 0)) 111 i = up b (m + 1) (stN T r (tn (T 0 1)) 0) i := fun i hi => by
      by_cases q : i = m + 1
      · subst q; rw [xI_ss, up_same]
      · rw [up_ne q]; exact h3 i (by omega)
    refine l_sb (s := stN T r (tn (T 0 1)) 0) (k := m + 1) (b := b) (r := stR T r) M3 (by omega) hb h3 hr3 (fun j hj ej h4 g4 hr4 => ?_) (fun e3 hq h4 g4 hr4 => ?_) (fun hlt hq => ?_) (m + 1) 0 (by omega) (fun q hq => absurd hq (by omega))
    · have hjm : j < m := by
        have : j ≠ m := fun q => hne (by rw [← ej, q])
        omega
      have hfnd : fnd b (stN T r (tn (T 0 1)) 0) m = some j := fnd_inj m hjm ej (fun i hi ei => by
        rcases Nat.lt_trichotomy i j with q | q | q
        · exact absurd (ei.trans ej.symm) (inj i j q (by omega))
        · exact q
        · exact absurd (ej.trans ei.symm) (inj j i q (by omega)))
      rw [hfnd] at hset
      refine kk h4 (g3.trm g4 (by decide) (by decide) (by decide) (by decide)) ?_
      rw [hset]
      dsimp only
      rw [← bl_un (r := stR T r) (by omega) (fun p hp => ?_)]
      · exact hr4
      · obtain ⟨a, ha, ea⟩ := hb j (by omega)
        rw [ea, shI_n (by omega) (by omega)]
        have hd : ∀ q, q < tn (T 0 1) → sdg T r q < 5 := fun q hq => (sdg_n hn hq).1
        have b1 := pw6 p6 (num_lt _ hd)
        have : a = num (sdg T r) (tn (T 0 1)) := (nI_eq (by omega) (by omega)).mp (ea.symm.trans (ej.trans (stN_n hn)))
        rw [this, num_dig _ p hd hp, ← (sdg_n hn hp).2]
        unfold stR
        rw [if_pos (by omega), Nat.add_sub_cancel_left]
    · have hf0 : f = 0 := by omega
      have hfn : fnd b (stN T r (tn (T 0 1)) 0) m = none := by
        cases hh : fnd b (stN T r (tn (T 0 1)) 0) m with
        | none => rfl
        | some j => exact absurd (fnd_lt _ _ hh).2 (hq j (by have := (fnd_lt _ _ hh).1; omega))
      rw [hfn, hf0] at hset
      refine kk h4 (g3.trm g4 (by decide) (by decide) (by decide) (by decide)) ?_
      rw [hf0, hset]
      rw [e3] at hr4
      exact hr4
    · have hfn : fnd b (stN T r (tn (T 0 1)) 0) m = none := by
        cases hh : fnd b (stN T r (tn (T 0 1)) 0) m with
        | none => rfl
        | some j => exact absurd (fnd_lt _ _ hh).2 (hq j (by have := (fnd_lt _ _ hh).1; omega))
      rw [hfn] at hset
      exact kn (by omega) hset hq _ g3 hr3 h3'
theorem l_se : ∀ (f m : Nat) (r b : Nat → Int32) (h : XH), m + 1 + f = 300 → RM T l h → rq (xI h 109) (rw_end r 0 (nI m) 0 0) → (∀ i, i < m + 1 → xI h 111 i = b i) → (∀ i, i < m + 1 → ∃ a, a < 15625 ∧ b i = nI a) → (∀ i j, i < j → j < m + 1 → b i ≠ b j) → rSh T r → b m = shOf r 6 0 → (∀ h1, Gx [106, 107, 109, 110, 111] [58] h h1 → rq (xI h1 109) (setl T (tn (T 0 1)) (f + 1) (m + 1) b r) → Q .null h1) → Ev 164 42 [.ref 69, .null, .null] [] h Q := by
  intro f
  induction f with
  | zero =>
    intro m r b h hf M hr h11 hb inj hsh hbk kk
    exact l_se1 M hf hr h11 hb inj hsh hbk kk (fun q => absurd q (by decide))
  | succ f ih =>
    intro m r b h hf M hr h11 hb inj hsh hbk kk
    have p6 := M.p6
    have hn := M.2.2.2.n
    refine l_se1 M hf hr h11 hb inj hsh hbk kk (fun _ hset hq h1 g1 hr1 h111 => ?_)
    refine ih (m + 1) (stR T r) (up b (m + 1) (stN T r (tn (T 0 1)) 0)) h1 (by omega) (M.gx g1 (by decide) (by decide)) hr1 h111 (fun i hi => ?_) (fun i j hij hj => ?_) (stR_sh hn p6 hsh) ?_ (fun h2 g2 hr2 => kk h2 (g1.tr g2) (by rw [hset]; exact hr2))
    · by_cases q : i = m + 1
      · subst q
        rw [up_same, stN_n hn]
        exact ⟨_, pw6 p6 (num_lt _ (fun q hq => (sdg_n hn hq).1)), rfl⟩
      · rw [up_ne q]; exact hb i (by omega)
    · by_cases q : j = m + 1
      · subst q
        rw [up_same, up_ne (by omega)]
        exact hq i (by omega)
      · rw [up_ne q, up_ne (by omega)]; exact inj i j hij (by omega)
    · rw [up_same, ← shOf_P (stR_sh hn p6 hsh) p6, stR_of]
end SE
theorem c_settles {T : Nat → Nat → Int32} {l : Nat} {h : XH} {r : Nat → Int32} {K : XH → Prop} (M : RM T l h) (hr : rq (xI h 109) r) (hsh : rSh T r) (kk : ∀ h1, Gx [106, 107, 109, 110, 111] [58] h h1 → rq (xI h1 109) (setS T r) → K h1) : ClV 164 [.ref 69] h K := by
  refine B_164_0 M.1 ?_
  simp (disch := omega) only [lit, tn_nI, z_inb, nI_add, pk_mul, z_le, z_nle, z_lt, z_nlt, z_ne, z_m1, pk_sub, xI_ss, xI_sd, xI_n, eq_self, true_and, and_true, and_self, not_true_eq_false, not_false_eq_true, false_implies, true_implies, implies_true, Classical.not_not, forall_const, true_or, or_true, false_or, or_false, false_and, and_false, if_true, if_false, ite_true, ite_false, reduceIte, reduceCtorEq]
  have p6 := M.p6
  have g1 : Gx [106, 107, 109, 110, 111] [58] h (xsI (xsI (xsI (xsI h 109 16 (nI 0)) 109 17 (nI 0)) 109 18 (nI 0)) 109 19 (nI 0)) := (((Gx.rf.set (by decide) (by decide)).set (by decide) (by decide)).set (by decide) (by decide)).set (by decide) (by decide)
  have hr1 : rq (xI (xsI (xsI (xsI (xsI h 109 16 (nI 0)) 109 17 (nI 0)) 109 18 (nI 0)) 109 19 (nI 0)) 109) (rw_end r 0 (nI 0) 0 0) := by
    have := rq_s (v := nI 0) (rq_s (v := nI 0) (rq_s (v := nI 0) (rq_s (v := nI 0) hr (j := 16) (by decide)) (j := 17) (by decide)) (j := 18) (by decide)) (j := 19) (by decide)
    refine rq_e this (fun i hi => ?_)
    by_cases h6 : i = 16
    · subst h6; rfl
    · by_cases h9 : i = 19
      · subst h9; rfl
      · by_cases h8 : i = 18
        · subst h8; rfl
        · by_cases h7 : i = 17
          · subst h7; rfl
          · unfold rw_end
            rw [up_ne h9, up_ne h8, up_ne h7, up_ne h6, up_ne h6, up_ne h9, up_ne h8, up_ne h7]
  generalize xsI (xsI (xsI (xsI h 109 16 (nI 0)) 109 17 (nI 0)) 109 18 (nI 0)) 109 19 (nI 0) = h1 at g1 hr1 ⊢
  have M1 := M.gx g1 (by decide) (by decide)
  refine c_shNow M1 hr1 ⟨M1.1, ?_⟩
  rw [shOf_eq rwe_Eq _ _ p6, shOf_P hsh p6]
  have g2 : Gx [106, 107, 109, 110, 111] [58] h (xsI h1 111 0 (shOf r 6 0)) := g1.set (by decide) (by decide)
  refine l_se (l := l) (T := T) 299 0 r (up (fun _ => 0) 0 (shOf r 6 0)) _ (by decide) (M.gx g2 (by decide) (by decide)) (by rw [xI_n (by decide)]; exact hr1) (fun i hi => ?_) (fun i hi => ?_) (fun i j hij hj => absurd hj (by omega)) hsh up_same (fun h2 g3 hr3 => ⟨rfl, kk h2 (g2.tr g3) hr3⟩)
  · rw [show i = 0 by omega, xI_ss, up_same]
  · rw [show i = 0 by omega, up_same, shOf_r hsh (Nat.le_refl _)]
    exact ⟨_, num_lt 6 (fun p hp => (rdg_n hsh hp).1), rfl⟩

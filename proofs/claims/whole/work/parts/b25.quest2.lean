/-! QUESTIONS, the rest -/
section QS2
variable {L i : Nat} {h : XH} {xs : Nat → Int32} {Q : Value → XH → Prop}
theorem Cs_3 (j : JJ xs L h) (hi : i + 6 ≤ L) (hL : L ≤ 3072) (nxt : ∀ h, JJ xs L h → Ev 267 1279 [.ref 0, .ref 4, .ref 69, .int (nI i)] [] h Q) : Ev 267 295 [.ref 0, .ref 4, .ref 69, .int (nI i)] [] h Q := by
  obtain ⟨T, c, l, r, n, f, hb, hf, sn, q, tl, b, pl, I, R, O, sc⟩ := j
  have e1 : xI h 4 2 = pl := I.2.2.2.2.2.2.1
  have e2 : xI h 69 17 = pl := R.2.2.2.2.2.2.1
  refine Lw_3 I.sh sc hi hL (B_68_0 I.sh ⟨_, rfl, I.sh, sc, B_204_0 I.sh ⟨_, rfl, ?_, nxt h ⟨T, c, l, r, n, f, hb, hf, sn, q, tl, b, pl, I, R, O, sc⟩⟩⟩)
  rw [e1, e2]
theorem Cs_4 (j : JJ xs L h) (hi : i + 6 ≤ L) (hL : L ≤ 3072) (nxt : ∀ h, JJ xs L h → Ev 267 1279 [.ref 0, .ref 4, .ref 69, .int (nI i)] [] h Q) : Ev 267 308 [.ref 0, .ref 4, .ref 69, .int (nI i)] [] h Q := by
  have j' := j
  obtain ⟨T, c, l, r, n, f, hb, hf, sn, q, tl, b, pl, I, R, O, sc⟩ := j
  exact Lw_4 I.sh sc hi hL (c_cFactO I.1.1 I.1.2.1 ⟨I.sh, sc, c_rFactO R.m R.2.1 ⟨rfl, nxt h j'⟩⟩)
theorem Cs_5 (j : JJ xs L h) (hi : i + 6 ≤ L) (hL : L ≤ 3072) (nxt : ∀ h, JJ xs L h → Ev 267 1279 [.ref 0, .ref 4, .ref 69, .int (nI i)] [] h Q) : Ev 267 331 [.ref 0, .ref 4, .ref 69, .int (nI i)] [] h Q := by
  obtain ⟨T, c, l, r, n, f, hb, hf, sn, q, tl, b, pl, I, R, O, sc⟩ := j
  refine Lw_5 I.sh sc hi hL (c_cPageO I.1.1 I.1.2.1 (fun h1 f1 => ?_))
  obtain ⟨I1, k1⟩ := I.f2 O.1 f1
  have R1 := R.kc k1 I1.sh
  refine ⟨I1.sh, sc.kc k1, c_rPageO R1.m R1.2.1 (fun h2 g2 => ?_)⟩
  obtain ⟨R2, k2⟩ := R1.gx g2 (by decide) (by decide)
  exact ⟨rfl, nxt h2 ⟨T, c, l, r, n, f, hb, hf, sn, q, tl, b, pl, I1.kr k2, R2, O, (sc.kc k1).kr k2⟩⟩
theorem Cs_6 (j : JJ xs L h) (hi : i + 6 ≤ L) (hL : L ≤ 3072) (nxt : ∀ h, JJ xs L h → Ev 267 1279 [.ref 0, .ref 4, .ref 69, .int (nI i)] [] h Q) : Ev 267 364 [.ref 0, .ref 4, .ref 69, .int (nI i)] [] h Q := by
  have j' := j
  obtain ⟨T, c, l, r, n, f, hb, hf, sn, q, tl, b, pl, I, R, O, sc⟩ := j
  exact Lw_6 I.sh sc hi hL (c_cSett I.sh I.1.2.1 ⟨I.sh, sc, c_rSett I.sh R.2.1 ⟨rfl, nxt h j'⟩⟩)
theorem Cs_11 (j : JJ xs L h) (hi : i + 6 ≤ L) (hL : L ≤ 3072) (nxt : ∀ h, JJ xs L h → Ev 267 1279 [.ref 0, .ref 4, .ref 69, .int (nI i)] [] h Q) : Ev 267 505 [.ref 0, .ref 4, .ref 69, .int (nI i)] [] h Q := by
  obtain ⟨T, c, l, r, n, f, hb, hf, sn, q, tl, b, pl, I, R, O, sc⟩ := j
  refine Lw_11 I.sh sc hi hL (c_cWorld I.1.1 I.1.2.1 O.1 ⟨I.sh, sc, c_rWorld R.m R.2.1 O.1 (fun h2 g2 => ?_)⟩)
  obtain ⟨R2, k2⟩ := R.gx g2 (by decide) (by decide)
  exact ⟨rfl, nxt h2 ⟨T, c, l, r, n, f, hb, hf, sn, q, tl, b, pl, I.kr k2, R2, O, sc.kr k2⟩⟩
theorem Cs_14 (j : JJ xs L h) (hi : i + 6 ≤ L) (hL : L ≤ 3072) (nxt : ∀ h, JJ xs L h → Ev 267 1279 [.ref 0, .ref 4, .ref 69, .int (nI i)] [] h Q) : Ev 267 584 [.ref 0, .ref 4, .ref 69, .int (nI i)] [] h Q := by
  obtain ⟨T, c, l, r, n, f, hb, hf, sn, q, tl, b, pl, I, R, O, sc⟩ := j
  refine Lw_14 I.sh sc hi hL (c_cWhen ⟨I.1.1, I.1.2.1, O.1, I.2.1.1⟩ (fun h1 f1 b1 => ?_))
  obtain ⟨I1, k1⟩ := I.fa (f1.mono (by decide)) b1
  have R1 := R.kc k1 I1.sh
  have p6 := I.1.1.2.2.2.p6
  refine ⟨I1.sh, sc.kc k1, c_rWhen R1.m R1.2.1 O.1 (fun p hp ex h2 g2 => ?_) (fun z => ?_)⟩
  · obtain ⟨R2, k2⟩ := R1.gx g2 (by decide) (by decide)
    refine ⟨?_, nxt h2 ⟨T, c, l, r, n, f, hb, hf, sn, q, tl, b, pl, I1.kr k2, R2, O, (sc.kc k1).kr k2⟩⟩
    rw [ex, opN_1 hp (by omega)]
  · refine ⟨?_, nxt h1 ⟨T, c, l, r, n, f, hb, hf, sn, q, tl, b, pl, I1, R1, O, sc.kc k1⟩⟩
    rw [opN_0 z]
theorem Cs_15 (j : JJ xs L h) (hi : i + 6 ≤ L) (hL : L ≤ 3072) (nxt : ∀ h, JJ xs L h → Ev 267 1279 [.ref 0, .ref 4, .ref 69, .int (nI i)] [] h Q) : Ev 267 607 [.ref 0, .ref 4, .ref 69, .int (nI i)] [] h Q := by
  obtain ⟨T, c, l, r, n, f, hb, hf, sn, q, tl, b, pl, I, R, O, sc⟩ := j
  refine Lw_15 I.sh sc hi hL (c_cStays ⟨I.1.1, I.1.2.1, O.1, I.2.1.1⟩ (fun h1 f1 b1 => ?_))
  obtain ⟨I1, k1⟩ := I.fa (f1.mono (by decide)) b1
  have R1 := R.kc k1 I1.sh
  have p6 := I.1.1.2.2.2.p6
  refine ⟨I1.sh, sc.kc k1, c_rStays R1.m R1.2.1 O.1 (fun p hp ex h2 g2 => ?_) (fun z => ?_)⟩
  · obtain ⟨R2, k2⟩ := R1.gx g2 (by decide) (by decide)
    refine ⟨?_, nxt h2 ⟨T, c, l, r, n, f, hb, hf, sn, q, tl, b, pl, I1.kr k2, R2, O, (sc.kc k1).kr k2⟩⟩
    rw [ex, opN_1 hp (by omega)]
  · refine ⟨?_, nxt h1 ⟨T, c, l, r, n, f, hb, hf, sn, q, tl, b, pl, I1, R1, O, sc.kc k1⟩⟩
    rw [opN_0 z]
theorem Cs_26 (j : JJ xs L h) (hi : i + 6 ≤ L) (hL : L ≤ 3072) (nxt : ∀ h, JJ xs L h → Ev 267 1279 [.ref 0, .ref 4, .ref 69, .int (nI i)] [] h Q) : Ev 267 936 [.ref 0, .ref 4, .ref 69, .int (nI i)] [] h Q := by
  obtain ⟨T, c, l, r, n, f, hb, hf, sn, q, tl, b, pl, I, R, O, sc⟩ := j
  refine Lw_26 I.sh sc hi hL (c_cRests ⟨I.1.1, I.1.2.1, O.1, I.2.1.2.1, I.1.2.2.1⟩ I.1.2.2.2.2 (fun h1 f1 b1 => ?_))
  obtain ⟨I1, k1⟩ := I.fw (f1.mono (by decide) (by decide) (xT_lt I.sh (by decide))) b1
  have R1 := R.kc k1 I1.sh
  refine ⟨I1.sh, sc.kc k1, c_rRests R1.m R1.2.1 O.1 (fun h2 g2 => ?_)⟩
  obtain ⟨R2, k2⟩ := R1.gx g2 (by decide) (by decide)
  exact ⟨rfl, nxt h2 ⟨T, c, l, r, n, f, hb, hf, sn, q, tl, b, pl, I1.kr k2, R2, O, (sc.kc k1).kr k2⟩⟩
theorem Cs_36 (j : JJ xs L h) (hi : i + 6 ≤ L) (hL : L ≤ 3072) (nxt : ∀ h, JJ xs L h → Ev 267 1279 [.ref 0, .ref 4, .ref 69, .int (nI i)] [] h Q) : Ev 267 1256 [.ref 0, .ref 4, .ref 69, .int (nI i)] [] h Q := by
  have j' := j
  obtain ⟨T, c, l, r, n, f, hb, hf, sn, q, tl, b, pl, I, R, O, sc⟩ := j
  exact Lw_36 I.sh sc hi hL (c_cCount I.1.1 I.1.2.1 I.2.2.2.1 I.2.2.2.2.1 I.2.2.2.2.2.1.2.1 I.2.2.1.2.1 ⟨I.sh, sc, c_rCount R.m I.1.2.2.2.2 R.2.1 R.2.2.1 R.2.2.2.1 R.2.2.2.2.2.1.2.1 R.2.2.2.2.1.2.1 ⟨rfl, nxt h j'⟩⟩)
end QS2

/-! QUESTIONS: both sides answer alike -/
section QST
variable {L i : Nat} {h : XH} {xs : Nat → Int32} {Q : Value → XH → Prop}
theorem Cs_13 (j : JJ xs L h) (hi : i + 6 ≤ L) (hL : L ≤ 3072) (nxt : ∀ h, JJ xs L h → Ev 267 1279 [.ref 0, .ref 4, .ref 69, .int (nI i)] [] h Q) : Ev 267 551 [.ref 0, .ref 4, .ref 69, .int (nI i)] [] h Q := by
  obtain ⟨T, c, l, r, n, f, hb, hf, sn, q, tl, b, pl, I, R, O, sc⟩ := j
  refine Lw_13 I.sh sc hi hL (c_cLeast ⟨I.1.1, I.1.2.1, O.1, I.2.1.2.1, I.1.2.2.1⟩ (fun h1 f1 b1 => ?_))
  obtain ⟨I1, k1⟩ := I.fw (f1.mono (by decide) (by decide) (xT_lt I.sh (by decide))) b1
  have R1 := R.kc k1 I1.sh
  refine ⟨I1.sh, sc.kc k1, c_rLeast R1.m R1.2.1 O.1 (fun h2 g2 => ?_)⟩
  obtain ⟨R2, k2⟩ := R1.gx g2 (by decide) (by decide)
  exact ⟨rfl, nxt h2 ⟨T, c, l, r, n, f, hb, hf, sn, q, tl, b, pl, I1.kr k2, R2, O, (sc.kc k1).kr k2⟩⟩
theorem Cs_16 (j : JJ xs L h) (hi : i + 6 ≤ L) (hL : L ≤ 3072) (nxt : ∀ h, JJ xs L h → Ev 267 1279 [.ref 0, .ref 4, .ref 69, .int (nI i)] [] h Q) : Ev 267 630 [.ref 0, .ref 4, .ref 69, .int (nI i)] [] h Q := by
  obtain ⟨T, c, l, r, n, f, hb, hf, sn, q, tl, b, pl, I, R, O, sc⟩ := j
  refine Lw_16 I.sh sc hi hL (c_cLong ⟨I.1.1, I.1.2.1, O.1, I.2.1.1⟩ (fun h1 f1 b1 => ?_))
  obtain ⟨I1, k1⟩ := I.fa (f1.mono (by decide)) b1
  have R1 := R.kc k1 I1.sh
  refine ⟨I1.sh, sc.kc k1, c_rLong R1.m R1.2.1 O.1 (fun h2 g2 => ?_)⟩
  obtain ⟨R2, k2⟩ := R1.gx g2 (by decide) (by decide)
  exact ⟨rfl, nxt h2 ⟨T, c, l, r, n, f, hb, hf, sn, q, tl, b, pl, I1.kr k2, R2, O, (sc.kc k1).kr k2⟩⟩
theorem Cs_17 (j : JJ xs L h) (hi : i + 6 ≤ L) (hL : L ≤ 3072) (nxt : ∀ h, JJ xs L h → Ev 267 1279 [.ref 0, .ref 4, .ref 69, .int (nI i)] [] h Q) : Ev 267 663 [.ref 0, .ref 4, .ref 69, .int (nI i)] [] h Q := by
  obtain ⟨T, c, l, r, n, f, hb, hf, sn, q, tl, b, pl, I, R, O, sc⟩ := j
  refine Lw_17 I.sh sc hi hL (c_cChg ⟨I.1.1, I.1.2.1, O.1, I.2.1.1⟩ (fun h1 f1 b1 => ?_))
  obtain ⟨I1, k1⟩ := I.fa (f1.mono (by decide)) b1
  have R1 := R.kc k1 I1.sh
  refine ⟨I1.sh, sc.kc k1, c_rChg R1.m R1.2.1 O.1 (fun h2 g2 => ?_)⟩
  obtain ⟨R2, k2⟩ := R1.gx g2 (by decide) (by decide)
  exact ⟨rfl, nxt h2 ⟨T, c, l, r, n, f, hb, hf, sn, q, tl, b, pl, I1.kr k2, R2, O, (sc.kc k1).kr k2⟩⟩
theorem Cs_18 (j : JJ xs L h) (hi : i + 6 ≤ L) (hL : L ≤ 3072) (nxt : ∀ h, JJ xs L h → Ev 267 1279 [.ref 0, .ref 4, .ref 69, .int (nI i)] [] h Q) : Ev 267 686 [.ref 0, .ref 4, .ref 69, .int (nI i)] [] h Q := by
  obtain ⟨T, c, l, r, n, f, hb, hf, sn, q, tl, b, pl, I, R, O, sc⟩ := j
  refine Lw_18 I.sh sc hi hL (c_cShade ⟨I.1.1, I.1.2.1, O.1, I.2.1.1⟩ (fun h1 f1 b1 => ?_))
  obtain ⟨I1, k1⟩ := I.fa (f1.mono (by decide)) b1
  have R1 := R.kc k1 I1.sh
  refine ⟨I1.sh, sc.kc k1, c_rShade R1.m R1.2.1 O.1 (fun h2 g2 => ?_)⟩
  obtain ⟨R2, k2⟩ := R1.gx g2 (by decide) (by decide)
  exact ⟨rfl, nxt h2 ⟨T, c, l, r, n, f, hb, hf, sn, q, tl, b, pl, I1.kr k2, R2, O, (sc.kc k1).kr k2⟩⟩
theorem Cs_19 (j : JJ xs L h) (hi : i + 6 ≤ L) (hL : L ≤ 3072) (nxt : ∀ h, JJ xs L h → Ev 267 1279 [.ref 0, .ref 4, .ref 69, .int (nI i)] [] h Q) : Ev 267 719 [.ref 0, .ref 4, .ref 69, .int (nI i)] [] h Q := by
  obtain ⟨T, c, l, r, n, f, hb, hf, sn, q, tl, b, pl, I, R, O, sc⟩ := j
  refine Lw_19 I.sh sc hi hL (c_cBlackIn ⟨I.1.1, I.1.2.1, O.1, I.2.1.2.1, I.1.2.2.1⟩ (fun h1 f1 b1 => ?_))
  obtain ⟨I1, k1⟩ := I.fw (f1.mono (by decide) (by decide) (xT_lt I.sh (by decide))) b1
  have R1 := R.kc k1 I1.sh
  refine ⟨I1.sh, sc.kc k1, c_rBlackIn R1.m R1.2.1 O.1 (fun h2 g2 => ?_)⟩
  obtain ⟨R2, k2⟩ := R1.gx g2 (by decide) (by decide)
  exact ⟨rfl, nxt h2 ⟨T, c, l, r, n, f, hb, hf, sn, q, tl, b, pl, I1.kr k2, R2, O, (sc.kc k1).kr k2⟩⟩
theorem Cs_20 (j : JJ xs L h) (hi : i + 6 ≤ L) (hL : L ≤ 3072) (nxt : ∀ h, JJ xs L h → Ev 267 1279 [.ref 0, .ref 4, .ref 69, .int (nI i)] [] h Q) : Ev 267 742 [.ref 0, .ref 4, .ref 69, .int (nI i)] [] h Q := by
  obtain ⟨T, c, l, r, n, f, hb, hf, sn, q, tl, b, pl, I, R, O, sc⟩ := j
  refine Lw_20 I.sh sc hi hL (c_cGrey ⟨I.1.1, I.1.2.1, O.1, I.2.1.2.1, I.1.2.2.1⟩ (fun h1 f1 b1 => ?_))
  obtain ⟨I1, k1⟩ := I.fw (f1.mono (by decide) (by decide) (xT_lt I.sh (by decide))) b1
  have R1 := R.kc k1 I1.sh
  refine ⟨I1.sh, sc.kc k1, c_rGrey R1.m R1.2.1 O.1 (fun h2 g2 => ?_)⟩
  obtain ⟨R2, k2⟩ := R1.gx g2 (by decide) (by decide)
  exact ⟨rfl, nxt h2 ⟨T, c, l, r, n, f, hb, hf, sn, q, tl, b, pl, I1.kr k2, R2, O, (sc.kc k1).kr k2⟩⟩
theorem Cs_21 (j : JJ xs L h) (hi : i + 6 ≤ L) (hL : L ≤ 3072) (nxt : ∀ h, JJ xs L h → Ev 267 1279 [.ref 0, .ref 4, .ref 69, .int (nI i)] [] h Q) : Ev 267 791 [.ref 0, .ref 4, .ref 69, .int (nI i)] [] h Q := by
  obtain ⟨T, c, l, r, n, f, hb, hf, sn, q, tl, b, pl, I, R, O, sc⟩ := j
  refine Lw_21 I.sh sc hi hL (c_cWeight ⟨I.1.1, I.1.2.1, O.1, I.2.1.2.1, I.1.2.2.1⟩ (fun h1 f1 b1 => ?_))
  obtain ⟨I1, k1⟩ := I.fw (f1.mono (by decide) (by decide) (xT_lt I.sh (by decide))) b1
  have R1 := R.kc k1 I1.sh
  refine ⟨I1.sh, sc.kc k1, c_rWeight R1.m R1.2.1 O.1 (fun h2 g2 => ?_)⟩
  obtain ⟨R2, k2⟩ := R1.gx g2 (by decide) (by decide)
  exact ⟨rfl, nxt h2 ⟨T, c, l, r, n, f, hb, hf, sn, q, tl, b, pl, I1.kr k2, R2, O, (sc.kc k1).kr k2⟩⟩
theorem Cs_22 (j : JJ xs L h) (hi : i + 6 ≤ L) (hL : L ≤ 3072) (nxt : ∀ h, JJ xs L h → Ev 267 1279 [.ref 0, .ref 4, .ref 69, .int (nI i)] [] h Q) : Ev 267 824 [.ref 0, .ref 4, .ref 69, .int (nI i)] [] h Q := by
  obtain ⟨T, c, l, r, n, f, hb, hf, sn, q, tl, b, pl, I, R, O, sc⟩ := j
  refine Lw_22 I.sh sc hi hL (c_cWeak ⟨I.1.1, I.1.2.1, O.1, I.2.1.2.1, I.1.2.2.1⟩ (fun h1 f1 b1 => ?_))
  obtain ⟨I1, k1⟩ := I.fw (f1.mono (by decide) (by decide) (xT_lt I.sh (by decide))) b1
  have R1 := R.kc k1 I1.sh
  refine ⟨I1.sh, sc.kc k1, c_rWeak R1.m R1.2.1 O.1 (fun h2 g2 => ?_)⟩
  obtain ⟨R2, k2⟩ := R1.gx g2 (by decide) (by decide)
  exact ⟨rfl, nxt h2 ⟨T, c, l, r, n, f, hb, hf, sn, q, tl, b, pl, I1.kr k2, R2, O, (sc.kc k1).kr k2⟩⟩
theorem Cs_23 (j : JJ xs L h) (hi : i + 6 ≤ L) (hL : L ≤ 3072) (nxt : ∀ h, JJ xs L h → Ev 267 1279 [.ref 0, .ref 4, .ref 69, .int (nI i)] [] h Q) : Ev 267 857 [.ref 0, .ref 4, .ref 69, .int (nI i)] [] h Q := by
  obtain ⟨T, c, l, r, n, f, hb, hf, sn, q, tl, b, pl, I, R, O, sc⟩ := j
  refine Lw_23 I.sh sc hi hL (c_cBest ⟨I.1.1, I.1.2.1, O.1, I.2.1.2.1, I.1.2.2.1⟩ (fun h1 f1 b1 => ?_))
  obtain ⟨I1, k1⟩ := I.fw (f1.mono (by decide) (by decide) (xT_lt I.sh (by decide))) b1
  have R1 := R.kc k1 I1.sh
  refine ⟨I1.sh, sc.kc k1, c_rBest R1.m R1.2.1 O.1 (fun h2 g2 => ?_)⟩
  obtain ⟨R2, k2⟩ := R1.gx g2 (by decide) (by decide)
  exact ⟨rfl, nxt h2 ⟨T, c, l, r, n, f, hb, hf, sn, q, tl, b, pl, I1.kr k2, R2, O, (sc.kc k1).kr k2⟩⟩
theorem Cs_24 (j : JJ xs L h) (hi : i + 6 ≤ L) (hL : L ≤ 3072) (nxt : ∀ h, JJ xs L h → Ev 267 1279 [.ref 0, .ref 4, .ref 69, .int (nI i)] [] h Q) : Ev 267 880 [.ref 0, .ref 4, .ref 69, .int (nI i)] [] h Q := by
  obtain ⟨T, c, l, r, n, f, hb, hf, sn, q, tl, b, pl, I, R, O, sc⟩ := j
  refine Lw_24 I.sh sc hi hL (c_cAgain ⟨I.1.1, I.1.2.1, O.1, I.2.1.1⟩ (fun h1 f1 b1 => ?_))
  obtain ⟨I1, k1⟩ := I.fa (f1.mono (by decide)) b1
  have R1 := R.kc k1 I1.sh
  refine ⟨I1.sh, sc.kc k1, c_rAgain R1.m R1.2.1 O.1 (fun h2 g2 => ?_)⟩
  obtain ⟨R2, k2⟩ := R1.gx g2 (by decide) (by decide)
  exact ⟨rfl, nxt h2 ⟨T, c, l, r, n, f, hb, hf, sn, q, tl, b, pl, I1.kr k2, R2, O, (sc.kc k1).kr k2⟩⟩
theorem Cs_25 (j : JJ xs L h) (hi : i + 6 ≤ L) (hL : L ≤ 3072) (nxt : ∀ h, JJ xs L h → Ev 267 1279 [.ref 0, .ref 4, .ref 69, .int (nI i)] [] h Q) : Ev 267 903 [.ref 0, .ref 4, .ref 69, .int (nI i)] [] h Q := by
  obtain ⟨T, c, l, r, n, f, hb, hf, sn, q, tl, b, pl, I, R, O, sc⟩ := j
  refine Lw_25 I.sh sc hi hL (c_cTwins ⟨I.1.1, I.1.2.2.1, I.2.1.2.2.2, I.2.2.1⟩ (fun h1 f1 b1 => ?_))
  obtain ⟨I1, k1⟩ := I.fg (f1.1.mono (by decide) (by decide) (xT_lt I.sh (by decide))) b1
  have R1 := R.kc k1 I1.sh
  refine ⟨I1.sh, sc.kc k1, c_rTwins R1.m (fun h2 g2 => ?_)⟩
  obtain ⟨R2, k2⟩ := R1.gx g2 (by decide) (by decide)
  exact ⟨rfl, nxt h2 ⟨T, c, l, r, n, f, hb, hf, sn, q, tl, b, pl, I1.kr k2, R2, O, (sc.kc k1).kr k2⟩⟩
theorem Cs_27 (j : JJ xs L h) (hi : i + 6 ≤ L) (hL : L ≤ 3072) (nxt : ∀ h, JJ xs L h → Ev 267 1279 [.ref 0, .ref 4, .ref 69, .int (nI i)] [] h Q) : Ev 267 979 [.ref 0, .ref 4, .ref 69, .int (nI i)] [] h Q := by
  obtain ⟨T, c, l, r, n, f, hb, hf, sn, q, tl, b, pl, I, R, O, sc⟩ := j
  refine Lw_27 I.sh sc hi hL (c_cHope ⟨I.1.1, I.1.2.1, O.1, I.2.1.1⟩ (fun h1 f1 b1 => ?_))
  obtain ⟨I1, k1⟩ := I.fa (f1.mono (by decide)) b1
  have R1 := R.kc k1 I1.sh
  refine ⟨I1.sh, sc.kc k1, c_rHope R1.m R1.2.1 O.1 (fun h2 g2 => ?_)⟩
  obtain ⟨R2, k2⟩ := R1.gx g2 (by decide) (by decide)
  exact ⟨rfl, nxt h2 ⟨T, c, l, r, n, f, hb, hf, sn, q, tl, b, pl, I1.kr k2, R2, O, (sc.kc k1).kr k2⟩⟩
theorem Cs_30 (j : JJ xs L h) (hi : i + 6 ≤ L) (hL : L ≤ 3072) (nxt : ∀ h, JJ xs L h → Ev 267 1279 [.ref 0, .ref 4, .ref 69, .int (nI i)] [] h Q) : Ev 267 1078 [.ref 0, .ref 4, .ref 69, .int (nI i)] [] h Q := by
  obtain ⟨T, c, l, r, n, f, hb, hf, sn, q, tl, b, pl, I, R, O, sc⟩ := j
  refine Lw_30 I.sh sc hi hL (c_cFits ⟨I.1.1, I.1.2.2.1, I.2.1.2.2.2, I.2.2.1⟩ (fun h1 f1 b1 => ?_))
  obtain ⟨I1, k1⟩ := I.fg (f1.1.mono (by decide) (by decide) (xT_lt I.sh (by decide))) b1
  have R1 := R.kc k1 I1.sh
  refine ⟨I1.sh, sc.kc k1, c_rFits R1.m R1.2.2.2.2.1 (fun h2 g2 => ?_)⟩
  obtain ⟨R2, k2⟩ := R1.gx g2 (by decide) (by decide)
  exact ⟨rfl, nxt h2 ⟨T, c, l, r, n, f, hb, hf, sn, q, tl, b, pl, I1.kr k2, R2, O, (sc.kc k1).kr k2⟩⟩
theorem Cs_31 (j : JJ xs L h) (hi : i + 6 ≤ L) (hL : L ≤ 3072) (nxt : ∀ h, JJ xs L h → Ev 267 1279 [.ref 0, .ref 4, .ref 69, .int (nI i)] [] h Q) : Ev 267 1111 [.ref 0, .ref 4, .ref 69, .int (nI i)] [] h Q := by
  obtain ⟨T, c, l, r, n, f, hb, hf, sn, q, tl, b, pl, I, R, O, sc⟩ := j
  refine Lw_31 I.sh sc hi hL (c_cSure ⟨I.1.1, I.1.2.2.1, I.2.1.2.2.2, I.2.2.1⟩ (fun h1 f1 b1 => ?_))
  obtain ⟨I1, k1⟩ := I.fg (f1.1.mono (by decide) (by decide) (xT_lt I.sh (by decide))) b1
  have R1 := R.kc k1 I1.sh
  refine ⟨I1.sh, sc.kc k1, c_rSure R1.m R1.2.2.2.2.1 (fun h2 g2 => ?_)⟩
  obtain ⟨R2, k2⟩ := R1.gx g2 (by decide) (by decide)
  exact ⟨rfl, nxt h2 ⟨T, c, l, r, n, f, hb, hf, sn, q, tl, b, pl, I1.kr k2, R2, O, (sc.kc k1).kr k2⟩⟩
theorem Cs_32 (j : JJ xs L h) (hi : i + 6 ≤ L) (hL : L ≤ 3072) (nxt : ∀ h, JJ xs L h → Ev 267 1279 [.ref 0, .ref 4, .ref 69, .int (nI i)] [] h Q) : Ev 267 1134 [.ref 0, .ref 4, .ref 69, .int (nI i)] [] h Q := by
  obtain ⟨T, c, l, r, n, f, hb, hf, sn, q, tl, b, pl, I, R, O, sc⟩ := j
  refine Lw_32 I.sh sc hi hL (c_cNext ⟨I.1.1, I.1.2.2.1, I.2.1.2.2.2, I.2.2.1⟩ (fun h1 f1 b1 => ?_))
  obtain ⟨I1, k1⟩ := I.fg (f1.1.mono (by decide) (by decide) (xT_lt I.sh (by decide))) b1
  have R1 := R.kc k1 I1.sh
  refine ⟨I1.sh, sc.kc k1, c_rNext R1.m R1.2.2.2.2.1 (fun h2 g2 => ?_)⟩
  obtain ⟨R2, k2⟩ := R1.gx g2 (by decide) (by decide)
  exact ⟨rfl, nxt h2 ⟨T, c, l, r, n, f, hb, hf, sn, q, tl, b, pl, I1.kr k2, R2, O, (sc.kc k1).kr k2⟩⟩
theorem Cs_33 (j : JJ xs L h) (hi : i + 6 ≤ L) (hL : L ≤ 3072) (nxt : ∀ h, JJ xs L h → Ev 267 1279 [.ref 0, .ref 4, .ref 69, .int (nI i)] [] h Q) : Ev 267 1177 [.ref 0, .ref 4, .ref 69, .int (nI i)] [] h Q := by
  obtain ⟨T, c, l, r, n, f, hb, hf, sn, q, tl, b, pl, I, R, O, sc⟩ := j
  refine Lw_33 I.sh sc hi hL (c_cFew ⟨I.1.1, I.1.2.2.1, I.2.1.2.2.2, I.2.2.1⟩ (fun h1 f1 b1 => ?_))
  obtain ⟨I1, k1⟩ := I.fg (f1.1.mono (by decide) (by decide) (xT_lt I.sh (by decide))) b1
  have R1 := R.kc k1 I1.sh
  refine ⟨I1.sh, sc.kc k1, c_rFew R1.m (fun h2 g2 => ?_)⟩
  obtain ⟨R2, k2⟩ := R1.gx g2 (by decide) (by decide)
  exact ⟨rfl, nxt h2 ⟨T, c, l, r, n, f, hb, hf, sn, q, tl, b, pl, I1.kr k2, R2, O, (sc.kc k1).kr k2⟩⟩
theorem Cs_12 (j : JJ xs L h) (hi : i + 6 ≤ L) (hL : L ≤ 3072) (nxt : ∀ h, JJ xs L h → Ev 267 1279 [.ref 0, .ref 4, .ref 69, .int (nI i)] [] h Q) : Ev 267 528 [.ref 0, .ref 4, .ref 69, .int (nI i)] [] h Q := by
  obtain ⟨T, c, l, r, n, f, hb, hf, sn, q, tl, b, pl, I, R, O, sc⟩ := j
  refine Lw_12 I.sh sc hi hL (c_cStands ⟨I.1.1, I.1.2.1, I.1.2.2.2.1, I.2.1.2.2.1, I.1.2.2.1⟩ (fun h1 f1 b1 => ?_))
  obtain ⟨I1, k1⟩ := I.fs f1 b1
  have R1 := R.kc k1 I1.sh
  refine ⟨I1.sh, sc.kc k1, c_rStands R1.m R1.2.1 (fun h2 g2 => ?_)⟩
  obtain ⟨R2, k2⟩ := R1.gx g2 (by decide) (by decide)
  exact ⟨rfl, nxt h2 ⟨T, c, l, r, n, f, hb, hf, sn, q, tl, b, pl, I1.kr k2, R2, O, (sc.kc k1).kr k2⟩⟩
end QST

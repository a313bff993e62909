/-! WHAT IS DONE: both sides do it alike -/
section DON
variable {L i : Nat} {h : XH} {xs : Nat → Int32} {Q : Value → XH → Prop}
theorem Cs_0 (j : JJ xs L h) (hi : i + 6 ≤ L) (hL : L ≤ 3072) (nxt : ∀ h, JJ xs L h → Ev 267 1279 [.ref 0, .ref 4, .ref 69, .int (nI i)] [] h Q) : Ev 267 196 [.ref 0, .ref 4, .ref 69, .int (nI i)] [] h Q := by
  have j' := j
  obtain ⟨T, c, l, r, n, f, hb, hf, sn, q, tl, b, pl, I, R, O, sc⟩ := j
  refine Lw_0 I.sh sc hi hL (c_cFeed I.sh I.2.2.2.2.2.1 (fun z => ⟨I.sh, sc, c_rFeed I.sh R.2.2.2.2.2.1 (fun _ => ⟨rfl, nxt h j'⟩) (fun w => absurd w z)⟩) (fun z h1 f1 t1 => ?_))
  obtain ⟨I1, k1⟩ := I.tp f1 t1
  have R1 := R.kc k1 I1.sh
  refine ⟨I1.sh, sc.kc k1, c_rFeed I1.sh R1.2.2.2.2.2.1 (fun w => absurd z w) (fun _ h2 g2 t2 => ?_)⟩
  obtain ⟨R2, k2⟩ := R1.tp g2 t2
  obtain ⟨B, hB⟩ := O.2.2.2
  exact ⟨rfl, nxt h2 ⟨T, c, l, r, n, f, hb, hf, sn, q, _, _, pl, I1.kr k2, R2, ⟨O.1, O.2.1, O.2.2.1, tpB_of (fd_bv (tpB_bv hB))⟩, (sc.kc k1).kr k2⟩⟩
theorem Cs_1 (j : JJ xs L h) (hi : i + 6 ≤ L) (hL : L ≤ 3072) (nxt : ∀ h, JJ xs L h → Ev 267 1279 [.ref 0, .ref 4, .ref 69, .int (nI i)] [] h Q) : Ev 267 259 [.ref 0, .ref 4, .ref 69, .int (nI i)] [] h Q := by
  have j' := j
  obtain ⟨T, c, l, r, n, f, hb, hf, sn, q, tl, b, pl, I, R, O, sc⟩ := j
  have tl2 : tl ≤ 2000 := I.2.2.2.2.2.1.1
  have ex : ∀ m, m < tl + 1 → ¬ (nI m < 0 ∨ nI (tl + 1) ≤ nI m) := fun m hm z => by
    rcases z with z | z
    · exact absurd z (nI_pos (by omega))
    · exact absurd z (nI_ge hm (by omega))
  refine Lw_1 I.sh sc hi hL (c_cBack I.sh I.2.2.2.2.2.1 (fun z => ⟨I.sh, sc, c_rBack I.sh R.2.2.2.2.2.1 (fun _ => ⟨rfl, nxt h j'⟩) (fun m hm em => absurd (by rw [em] at z; exact z) (ex m hm))⟩) (fun m hm em h1 f1 t1 => ?_))
  obtain ⟨I1, k1⟩ := I.tp f1 t1
  have R1 := R.kc k1 I1.sh
  refine ⟨I1.sh, sc.kc k1, c_rBack I1.sh R1.2.2.2.2.2.1 (fun z => absurd (by rw [em] at z; exact z) (ex m hm)) (fun m2 hm2 em2 h2 g2 t2 => ?_)⟩
  have : m2 = m := (nI_eq (by omega) (by omega)).mp (em2.symm.trans em)
  subst this
  obtain ⟨R2, k2⟩ := R1.tp g2 t2
  obtain ⟨B, hB⟩ := O.2.2.2
  exact ⟨rfl, nxt h2 ⟨T, c, l, r, n, f, hb, hf, sn, q, _, _, pl, I1.kr k2, R2, ⟨O.1, O.2.1, O.2.2.1, ⟨B, hB.1, fun i hi => hB.2 i (by omega)⟩⟩, (sc.kc k1).kr k2⟩⟩
theorem Cs_28 (j : JJ xs L h) (hi : i + 6 ≤ L) (hL : L ≤ 3072) (nxt : ∀ h, JJ xs L h → Ev 267 1279 [.ref 0, .ref 4, .ref 69, .int (nI i)] [] h Q) : Ev 267 1022 [.ref 0, .ref 4, .ref 69, .int (nI i)] [] h Q := by
  have j' := j
  obtain ⟨T, c, l, r, n, f, hb, hf, sn, q, tl, b, pl, I, R, O, sc⟩ := j
  refine Lw_28 I.sh sc hi hL (c_cSee I.1.1 I.2.2.1 (fun z => ⟨I.sh, sc, c_rSee R.m R.2.2.2.2.1 (fun _ => ⟨rfl, nxt h j'⟩) (fun w => absurd w z)⟩) (fun z h1 f1 e1 s1 => ?_))
  obtain ⟨I1, k1⟩ := I.see f1 e1 s1
  have R1 := R.kc k1 I1.sh
  refine ⟨I1.sh, sc.kc k1, c_rSee R1.m R1.2.2.2.2.1 (fun w => absurd z w) (fun _ h2 g2 s2 => ?_)⟩
  obtain ⟨R2, k2⟩ := R1.see g2 s2
  exact ⟨rfl, nxt h2 ⟨T, c, l, r, n, f, hb, hf, _, _, tl, b, pl, I1.kr k2, R2, O, (sc.kc k1).kr k2⟩⟩
theorem Cs_29 (j : JJ xs L h) (hi : i + 6 ≤ L) (hL : L ≤ 3072) (nxt : ∀ h, JJ xs L h → Ev 267 1279 [.ref 0, .ref 4, .ref 69, .int (nI i)] [] h Q) : Ev 267 1065 [.ref 0, .ref 4, .ref 69, .int (nI i)] [] h Q := by
  obtain ⟨T, c, l, r, n, f, hb, hf, sn, q, tl, b, pl, I, R, O, sc⟩ := j
  refine Lw_29 I.sh sc hi hL (c_cForget I.sh I.2.2.1 (fun h1 f1 e1 s1 => ?_))
  obtain ⟨I1, k1⟩ := I.see (f1.mono (by decide)) e1 s1
  have R1 := R.kc k1 I1.sh
  refine ⟨I1.sh, sc.kc k1, c_rForget I1.sh R1.2.2.2.2.1 (fun h2 g2 s2 => ?_)⟩
  obtain ⟨R2, k2⟩ := R1.see (g2.mono (by decide) (by decide)) s2
  exact ⟨rfl, nxt h2 ⟨T, c, l, r, n, f, hb, hf, _, _, tl, b, pl, I1.kr k2, R2, O, (sc.kc k1).kr k2⟩⟩
theorem ex3 {m : Nat} (hm : m < 3) : ¬ (nI m < 0 ∨ nI 3 ≤ nI m) := fun z => by
  rcases z with z | z
  · exact absurd z (nI_pos (by omega))
  · exact absurd z (nI_ge hm (by omega))
theorem Cs_34 (j : JJ xs L h) (hi : i + 6 ≤ L) (hL : L ≤ 3072) (nxt : ∀ h, JJ xs L h → Ev 267 1279 [.ref 0, .ref 4, .ref 69, .int (nI i)] [] h Q) : Ev 267 1210 [.ref 0, .ref 4, .ref 69, .int (nI i)] [] h Q := by
  have j' := j
  obtain ⟨T, c, l, r, n, f, hb, hf, sn, q, tl, b, pl, I, R, O, sc⟩ := j
  refine Lw_34 I.sh sc hi hL (c_cHold I.sh I.1.2.1 I.2.2.2.2.1 (fun z => ⟨I.sh, sc, c_rHold I.sh R.2.1 R.2.2.2.1 (fun _ => ⟨rfl, nxt h j'⟩) (fun m hm em => absurd (by rw [em] at z; exact z) (ex3 hm))⟩) (fun m hm em h1 f1 e1 s1 => ?_))
  obtain ⟨I1, k1⟩ := I.hd f1 e1 s1
  have R1 := R.kc k1 I1.sh
  refine ⟨I1.sh, sc.kc k1, c_rHold I1.sh R1.2.1 R1.2.2.2.1 (fun z => absurd (by rw [em] at z; exact z) (ex3 hm)) (fun m2 hm2 em2 h2 g2 s2 => ?_)⟩
  have : m2 = m := (nI_eq (by omega) (by omega)).mp (em2.symm.trans em)
  subst this
  obtain ⟨R2, k2⟩ := R1.hd g2 s2
  refine ⟨rfl, nxt h2 ⟨T, c, l, r, n, f, _, _, sn, q, tl, b, pl, I1.kr k2, R2, ⟨O.1, O.2.1, fun s hs z => ?_, O.2.2.2⟩, (sc.kc k1).kr k2⟩⟩
  unfold upS at z
  unfold upR
  by_cases w : s = m2
  · rw [if_pos w]; exact O.1
  · rw [if_neg w] at z ⊢; exact O.2.2.1 s hs z
theorem SKp_108 : ∀ a ∈ [108], a ∈ SKp := by decide
theorem Cs_35 (j : JJ xs L h) (hi : i + 6 ≤ L) (hL : L ≤ 3072) (nxt : ∀ h, JJ xs L h → Ev 267 1279 [.ref 0, .ref 4, .ref 69, .int (nI i)] [] h Q) : Ev 267 1233 [.ref 0, .ref 4, .ref 69, .int (nI i)] [] h Q := by
  have j' := j
  obtain ⟨T, c, l, r, n, f, hb, hf, sn, q, tl, b, pl, I, R, O, sc⟩ := j
  refine Lw_35 I.sh sc hi hL (c_cRestore (n := n) (f := f) I.1.1 I.2.2.2.2.1 (fun z => ⟨I.sh, sc, c_rRestore (f := f) I.sh R.2.2.2.1 (fun _ => ⟨rfl, nxt h j'⟩) (fun m hm em hm2 => absurd ⟨m, hm, em, hm2⟩ z)⟩) (fun m hm em hm2 h1 n1 => ?_))
  obtain ⟨I1, k1⟩ := I.nw n1
  have R1 := R.kc k1 I1.sh
  refine ⟨I1.sh, sc.kc k1, c_rRestore (f := f) I1.sh R1.2.2.2.1 (fun z => absurd ⟨m, hm, em, hm2⟩ z) (fun m2 hm3 em2 hm4 h2 g2 r2 p2 => ?_)⟩
  have : m2 = m := (nI_eq (by omega) (by omega)).mp (em2.symm.trans em)
  subst this
  obtain ⟨R2, k2⟩ := R1.nw (g2.mono (by decide) (by decide)) r2 p2
  exact ⟨rfl, nxt h2 ⟨T, c, l, _, _, f, hb, hf, sn, q, tl, b, pl, I1.kr k2, R2, ⟨O.2.2.1 m2 hm hm2, fun k hk => absurd hk (Nat.not_lt_zero _), O.2.2⟩, (sc.kc k1).kr k2⟩⟩
theorem Cs_10 (j : JJ xs L h) (hi : i + 6 ≤ L) (hL : L ≤ 3072) (nxt : ∀ h, JJ xs L h → Ev 267 1279 [.ref 0, .ref 4, .ref 69, .int (nI i)] [] h Q) : Ev 267 492 [.ref 0, .ref 4, .ref 69, .int (nI i)] [] h Q := by
  have j' := j
  obtain ⟨T, c, l, r, n, f, hb, hf, sn, q, tl, b, pl, I, R, O, sc⟩ := j
  refine Lw_10 I.sh sc hi hL (c_cUndo I.1.1 I.2.2.2.1 (fun z => ⟨I.sh, sc, c_rUndo I.sh R.2.2.1 (fun m em => absurd em (by omega)) (fun _ => ⟨rfl, nxt h j'⟩)⟩) (fun m em h1 n1 => ?_))
  obtain ⟨I1, k1⟩ := I.nw n1
  have R1 := R.kc k1 I1.sh
  refine ⟨I1.sh, sc.kc k1, c_rUndo I1.sh R1.2.2.1 (fun m2 em2 h2 g2 r2 p2 => ?_) (fun z => absurd em (by omega))⟩
  have : m2 = m := by omega
  subst this
  obtain ⟨R2, k2⟩ := R1.nw (g2.mono (by decide) (by decide)) r2 p2
  exact ⟨rfl, nxt h2 ⟨T, c, l, _, _, _, hb, hf, sn, q, tl, b, pl, I1.kr k2, R2, ⟨O.2.1 0 (by omega), fun k hk => O.2.1 (k + 1) (by omega), O.2.2⟩, (sc.kc k1).kr k2⟩⟩
theorem Cs_7 (j : JJ xs L h) (hi : i + 6 ≤ L) (hL : L ≤ 3072) (nxt : ∀ h, JJ xs L h → Ev 267 1279 [.ref 0, .ref 4, .ref 69, .int (nI i)] [] h Q) : Ev 267 387 [.ref 0, .ref 4, .ref 69, .int (nI i)] [] h Q := by
  have j' := j
  obtain ⟨T, c, l, r, n, f, hb, hf, sn, q, tl, b, pl, I, R, O, sc⟩ := j
  have ex : ∀ m, m < 101 → ¬ (nI m < 0 ∨ nI 101 ≤ nI m) := fun m hm z => by
    rcases z with z | z
    · exact absurd z (nI_pos (by omega))
    · exact absurd z (nI_ge hm (by omega))
  refine Lw_7 I.sh sc hi hL (c_cDays I.1.1 I.1.2.1 I.2.2.2.1 (fun z => ⟨I.sh, sc, c_rDays R.m R.2.1 O.1 R.2.2.1 (fun _ => ⟨rfl, nxt h j'⟩) (fun e => absurd (by rw [e] at z; exact z) (ex 0 (by decide))) (fun m _ hm em => absurd (by rw [em] at z; exact z) (ex m hm))⟩) (fun e => ⟨I.sh, sc, c_rDays R.m R.2.1 O.1 R.2.2.1 (fun z => absurd (by rw [e] at z; exact z) (ex 0 (by decide))) (fun _ => ⟨rfl, nxt h j'⟩) (fun m h0 hm em => absurd ((nI_eq (a := m) (b := 0) (by omega) (by decide)).mp (em.symm.trans e)) (by omega))⟩) (fun m h0 hm em h1 n1 => ?_))
  obtain ⟨I1, k1⟩ := I.nw n1
  have R1 := R.kc k1 I1.sh
  refine ⟨I1.sh, sc.kc k1, c_rDays R1.m R1.2.1 O.1 R1.2.2.1 (fun z => absurd (by rw [em] at z; exact z) (ex m hm)) (fun e => absurd ((nI_eq (a := m) (b := 0) (by omega) (by decide)).mp (em.symm.trans e)) (by omega)) (fun m2 h02 hm2 em2 h2 n2 => ?_)⟩
  have : m2 = m := (nI_eq (by omega) (by omega)).mp (em2.symm.trans em)
  subst this
  obtain ⟨R2, k2⟩ := R1.nw n2.1 n2.2.2.1 n2.2.2.2
  exact ⟨rfl, nxt h2 ⟨T, c, l, _, _, _, hb, hf, sn, q, tl, b, pl, I1.kr k2, R2, O.nw (rOk_dN I.1.1.2.2.2 m2 r O.1), (sc.kc k1).kr k2⟩⟩
theorem Cs_8 (j : JJ xs L h) (hi : i + 6 ≤ L) (hL : L ≤ 3072) (nxt : ∀ h, JJ xs L h → Ev 267 1279 [.ref 0, .ref 4, .ref 69, .int (nI i)] [] h Q) : Ev 267 410 [.ref 0, .ref 4, .ref 69, .int (nI i)] [] h Q := by
  have j' := j
  obtain ⟨T, c, l, r, n, f, hb, hf, sn, q, tl, b, pl, I, R, O, sc⟩ := j
  refine Lw_8 I.sh sc hi hL (c_cSet I.1.1 I.1.2.1 I.2.2.2.1 (fun z => ⟨I.sh, sc, c_rSet R.m R.2.1 O.1 R.2.2.1 (fun _ => ⟨rfl, nxt h j'⟩) (fun w => absurd w z)⟩) (fun z h1 n1 => ?_))
  obtain ⟨I1, k1⟩ := I.nw n1
  have R1 := R.kc k1 I1.sh
  refine ⟨I1.sh, sc.kc k1, c_rSet R1.m R1.2.1 O.1 R1.2.2.1 (fun w => absurd z w) (fun _ h2 n2 => ?_)⟩
  obtain ⟨R2, k2⟩ := R1.nw n2.1 n2.2.2.1 n2.2.2.2
  have ta := I.1.1.2.2.2
  have f8 := ta.f8
  have ro : rOk T (setS T (up r (tn (xs (i + 1))) (xs (i + 2)))) := by
    obtain ⟨g, m, z1, z2, z3, z4, _⟩ := z
    rw [z3, z4, tn_nI (show g < 2 ^ 31 by omega)]
    exact rOk_set ta (rOk_fu O.1 f8 z1 z2)
  exact ⟨rfl, nxt h2 ⟨T, c, l, _, _, _, hb, hf, sn, q, tl, b, pl, I1.kr k2, R2, O.nw ro, (sc.kc k1).kr k2⟩⟩
theorem bz_01 (x : Int32) : bz x = 0 ∨ bz x = 1 := by
  unfold bz
  split
  · exact Or.inl rfl
  · exact Or.inr rfl
theorem Cs_9 (j : JJ xs L h) (hi : i + 6 ≤ L) (hL : L ≤ 3072) (nxt : ∀ h, JJ xs L h → Ev 267 1279 [.ref 0, .ref 4, .ref 69, .int (nI i)] [] h Q) : Ev 267 443 [.ref 0, .ref 4, .ref 69, .int (nI i)] [] h Q := by
  have j' := j
  obtain ⟨T, c, l, r, n, f, hb, hf, sn, q, tl, b, pl, I, R, O, sc⟩ := j
  refine Lw_9 I.sh sc hi hL (c_cWipe (bz_01 _) I.1.1 I.1.2.1 I.2.2.2.1 (fun z => ⟨I.sh, sc, c_rWipe (bz_01 _) R.m R.2.1 O.1 R.2.2.1 (fun _ => ⟨rfl, nxt h j'⟩) (fun w => absurd w z)⟩) (fun z h1 n1 => ?_))
  obtain ⟨I1, k1⟩ := I.nw n1
  have R1 := R.kc k1 I1.sh
  refine ⟨I1.sh, sc.kc k1, c_rWipe (bz_01 _) R1.m R1.2.1 O.1 R1.2.2.1 (fun w => absurd z w) (fun _ h2 n2 => ?_)⟩
  obtain ⟨R2, k2⟩ := R1.nw n2.1 n2.2.2.1 n2.2.2.2
  have ta := I.1.1.2.2.2
  exact ⟨rfl, nxt h2 ⟨T, c, l, _, _, _, hb, hf, sn, q, tl, b, pl, I1.kr k2, R2, O.nw (rOk_set ta (rOk_up (by decide) O.1 ta.f8)), (sc.kc k1).kr k2⟩⟩
theorem Cs_2 (j : JJ xs L h) (hi : i + 6 ≤ L) (hL : L ≤ 3072) (nxt : ∀ h, JJ xs L h → Ev 267 1279 [.ref 0, .ref 4, .ref 69, .int (nI i)] [] h Q) : Ev 267 282 [.ref 0, .ref 4, .ref 69, .int (nI i)] [] h Q := by
  obtain ⟨T, c, l, r, n, f, hb, hf, sn, q, tl, b, pl, I, R, O, sc⟩ := j
  obtain ⟨B, hB⟩ := O.2.2.2
  refine Lw_2 I.sh sc hi hL (c_readC I hB (fun pg hpg => ⟨fun e ej h1 k1 I1 => ?_, fun a cs rs st ej T' c' h1 X k1 I1 => ?_⟩))
  · have R1 := R.kc k1 I1.sh
    refine ⟨I1.sh, sc.kc k1, c_readR (T' := T) (pg := pg) R1 hB hpg (fun a cs rs st e2 => by rw [ej] at e2; cases e2) (fun e2 ej2 h2 k2 R2 => ?_) (fun a cs rs st e2 => by rw [ej] at e2; cases e2)⟩
    rw [ej] at ej2
    cases ej2
    exact ⟨rfl, nxt h2 ⟨T, c, l, r, n, f, hb, hf, sn, q, 0, b, _, I1.kr k2, R2, ⟨O.1, O.2.1, O.2.2.1, B, hB.1, fun i hi => absurd hi (Nat.not_lt_zero _)⟩, (sc.kc k1).kr k2⟩⟩
  · have R1 := R.kc k1 I1.sh
    refine ⟨I1.sh, sc.kc k1, c_readR (T' := T') (pg := pg) R1 hB hpg (fun a2 cs2 rs2 st2 e2 => by rw [ej] at e2; cases e2; exact X) (fun e2 ej2 => by rw [ej] at ej2; cases ej2) (fun a2 cs2 rs2 st2 e2 h2 k2 R2 => ?_)⟩
    have ta := I1.1.1.2.2.2
    exact ⟨rfl, nxt h2 ⟨T', c', _, _, 0, f, _, hf, 0, q, 0, b, _, I1.kr k2, R2, ⟨rOk_set ta (rOk_t ta), fun k hk => absurd hk (Nat.not_lt_zero _), fun s _ z => (by cases z), B, hB.1, fun i hi => absurd hi (Nat.not_lt_zero _)⟩, (sc.kc k1).kr k2⟩⟩
end DON

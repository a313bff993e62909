/-! READING: units and expressions of the other side -/
def sfV (sf : Option (Nat × Nat)) (h : XH) : Prop := match sf with
  | none => xI h 69 15 = nI 0
  | some (x, y) => xI h 69 15 = nI x ∧ xI h 69 16 = nI y ∧ 1 ≤ x ∧ x < 20 ∧ y ≤ 2000
section RXP
variable {s o : Nat} {B : Nat → Nat} {n : Nat} {h h0 : XH} {m : Md} {a : Nat} {sf : Option (Nat × Nat)} {cs rs : List Cd} {Q : Value → XH → Prop}
theorem sfP.v (p : sfP B n a sf h) : sfV sf h := by
  match sf, p with
  | none, p => exact p
  | some (x, y), p => exact ⟨p.1, p.2.1, p.2.2.1, p.2.2.2.1, p.2.2.2.2.1⟩
theorem sfP.lt (p : sfP B n a sf h) : ∀ x y, sf = some (x, y) → y < pS B n a := by
  intro x y e
  subst e
  exact p.2.2.2.2.2
theorem sfV.p (v : sfV sf h) (l : ∀ x y, sf = some (x, y) → y < pS B n a) : sfP B n a sf h := by
  match sf, v, l with
  | none, v, l => exact v
  | some (x, y), v, l => exact ⟨v.1, v.2.1, v.2.2.1, v.2.2.2.1, v.2.2.2.2, l x y rfl⟩
theorem c_wrong {x j : Nat} {K : XH → Prop} (hx : 1 ≤ x ∧ x < 20) (rb : RBs s B n h) (e13 : xI h 69 13 = nI 0) (hj : rch B n j) (v : sfV sf h) (lt : ∀ x' y, sf = some (x', y) → y < pS B n j) (k : ∀ h1, Gs s [] [15, 16] h h1 → sfV (sfO sf (some (x, pS B n j))) h1 → K h1) : ClV 192 [.ref 69, .int (nI x), .int (nI j)] h K := by
  have j4 := hj.1
  have p73 : xI h 73 j = nI (pS B n j) := (rb.2.2.2.1 j hj).2.1
  have p2 := pS_2000 (B := B) (n := n) rb.2.2.2.2 j
  refine B_192_0 rb.1 ?_
  rw [e13, tn_nI (show j < 2 ^ 31 by omega), p73]
  refine ⟨inb (by omega) (by decide), fun z => absurd z (by decide), fun _ => ?_⟩
  match sf, v, lt, k with
  | none, v, lt, k =>
    have v : xI h 69 15 = nI 0 := v
    rw [v]
    refine ⟨fun _ => ⟨rfl, k _ ((Gs.rf.fld (by decide)).fld (by decide)) ⟨by rw [xI_sd (by decide)]; exact xI_ss, xI_ss, hx.1, hx.2, p2⟩⟩, fun z => absurd rfl z⟩
  | some (x', y), v, lt, k =>
    obtain ⟨v1, v2, v3, v4, v5⟩ := v
    rw [v1, v2]
    have l := lt x' y rfl
    exact ⟨fun z => absurd z (fun q => by have := (nI_eq (a := x') (b := 0) (by omega) (by decide)).mp q; omega), fun _ => ⟨fun _ => ⟨rfl, k h Gs.rf ⟨v1, v2, v3, v4, v5⟩⟩, fun z => absurd (nI_lt l (by omega)) z⟩⟩
theorem c_failV {x c : Nat} {K : XH → Prop} (hx : 1 ≤ x ∧ x < 20) (rb : RBs s B n h) (e13 : xI h 69 13 = nI 0) (e11 : xI h 69 11 = nI a) (hr : rch B n a) (e51 : xI h 69 51 = nI (420 * s + c)) (hc : c ≤ 402) (k : ∀ h1, Gs s [] [13, 14] h h1 → RR s o B n (.error (x, pS B n a)) h1 → K h1) : ClV 187 [.ref 69, .int (nI x)] h K := by
  have a4 := hr.1
  have p73 : xI h 73 a = nI (pS B n a) := (rb.2.2.2.1 a hr).2.1
  have i11 : xI (xsI h 69 13 (nI x)) 69 11 = nI a := by rw [xI_sd (by decide)]; exact e11
  have i73 : xI (xsI h 69 13 (nI x)) 73 a = nI (pS B n a) := by rw [xI_n (by decide)]; exact p73
  refine B_187_0 rb.1 ?_
  rw [e13, i11, tn_nI (show a < 2 ^ 31 by omega), i73]
  refine ⟨fun _ => ⟨inb (by omega) (by decide), rfl, ?_⟩, fun z => absurd (by decide) z⟩
  have g : Gs s [] [13, 14] h (xsI (xsI h 69 13 (nI x)) 69 14 (nI (pS B n a))) := (Gs.rf.fld (by decide)).fld (by decide)
  exact k _ g ⟨rb.gx (g.mono (by decide) (by decide)), hx.1, hx.2, pS_2000 rb.2.2.2.2 a, by rw [xI_sd (by decide)]; exact xI_ss, xI_ss, ⟨a, a4, by rw [xI_sd (by decide)]; exact i11⟩, ⟨c, hc, by rw [xI_sd (by decide), xI_sd (by decide)]; exact e51⟩⟩
/-- on to the next token, with a new code perhaps and a soft fault here -/
theorem c_goesU {K : XH → Prop} (rb : RBs s B n h) (e13 : xI h 69 13 = nI 0) (e11 : xI h 69 11 = nI a) (hr : rch B n a) (hk : 2 ≤ kS B n a) (v : sfV sf h) (le : ∀ x y, sf = some (x, y) → y ≤ pS B n a) (e12 : xI h 69 12 = nI o) (hl : rs.length ≤ a + 1) (C : cdR s rs h) (R : rfR s rs h) (k : ∀ h1, Gs s [] [11, 13, 14] h h1 → RR s o B n (gnS (pS B n) (.ok (a, sf, cs, rs))) h1 → K h1) : ClV 190 [.ref 69] h K := by
  have a4 := hr.1
  have eg : gnS (pS B n) (.ok (a, sf, cs, rs)) = if a < 400 then .ok (a + 1, sf, cs, rs) else .error (2, pS B n a) := rfl
  refine B_190_0 rb.1 ?_
  rw [e11, nI_1]
  refine ⟨fun z => ⟨rfl, ?_⟩, fun z => ?_⟩
  · have a4' : a < 400 := by
      have : a ≠ 400 := fun q => z (by rw [q]; rfl)
      omega
    have g : Gs s [] [11, 13, 14] h (xsI h 69 11 (nI (a + 1))) := Gs.rf.fld (by decide)
    have lt : pS B n a < pS B n (a + 1) := pS_lt (by
      apply Classical.byContradiction
      intro q
      have : kS B n a = 0 := by unfold kS; rw [if_neg q]
      omega)
    refine k _ g ?_
    rw [eg, if_pos a4']
    refine ⟨rb.gx (g.mono (by decide) (by decide)), by rw [xI_sd (by decide)]; exact e13, xI_ss, ⟨by omega, fun i hi => ?_⟩, ?_, by rw [xI_sd (by decide)]; exact e12, hl, by rw [xI_sd (by decide)]; exact C.1, fun i hi => by rw [xI_n (by decide), xI_n (by decide)]; exact C.2 i hi, by rw [xI_sd (by decide)]; exact R.1, fun i hi => by rw [xI_n (by decide), xI_n (by decide)]; exact R.2 i hi⟩
    · by_cases e : i = a
      · rw [e]; omega
      · exact hr.2 i (by omega)
    · refine sfV.p ?_ (fun x y e => by have := le x y e; omega)
      unfold sfV
      rw [xI_sd (by decide), xI_sd (by decide)]
      exact v
  · have a4' : a = 400 := (nI_eq (b := 400) (by omega) (by decide)).mp (Classical.not_not.mp z)
    refine c_failV (o := o) (x := 2) (by decide) rb e13 e11 hr C.1 (by omega) (fun h1 g r1 => ⟨r1.sh, rfl, k h1 (g.mono (by decide) (by decide)) ?_⟩)
    rw [eg, if_neg (by omega)]
    exact r1
theorem RR.C (r : RR s o B n (.ok (a, sf, cs, rs)) h) : cdR s rs h := ⟨r.2.2.2.2.2.2.2.1, r.2.2.2.2.2.2.2.2.1⟩
theorem RR.R (r : RR s o B n (.ok (a, sf, cs, rs)) h) : rfR s rs h := r.2.2.2.2.2.2.2.2.2
theorem rfR.no {c : Cd} {h1 : XH} (hc : c.1 ≠ 11) (R : rfR s rs h) (e39 : xI h1 69 39 = xI h 69 39) (e94 : xI h1 94 = xI h 94) (e95 : xI h1 95 = xI h 95) : rfR s (rs ++ [c]) h1 := by
  have : rfA 0 (rs ++ [c]) = rfA 0 rs := by rw [rfA_s, if_neg hc, List.append_nil]
  unfold rfR
  rw [this, e39, e94, e95]
  exact R
theorem rfG_l {l : List (Nat × Nat)} {x : Nat × Nat} {i : Nat} (hi : i < l.length) : rfG (l ++ [x]) i = rfG l i := by
  unfold rfG
  rw [List.getD_eq_getElem?_getD, List.getElem?_append_left hi, ← List.getD_eq_getElem?_getD]
theorem rfG_r {l : List (Nat × Nat)} {x : Nat × Nat} : rfG (l ++ [x]) l.length = x := by
  unfold rfG
  rw [List.getD_eq_getElem?_getD, List.getElem?_append_right (Nat.le_refl _), Nat.sub_self]
  rfl
theorem unG (p : Nat → Nat) {c : Cd} : gnS p (.ok (a, sf, cs, rs ++ [c])) = if a < 400 then .ok (a + 1, sf, cs, rs ++ [c]) else .error (2, p a) := rfl
theorem c_unitR {pg : Nat} {law : Bool} {K : XH → Prop} (r : RR s o B n (.ok (a, sf, cs, rs)) h) (e42 : xI h 69 42 = if law = true then 1 else 0) (hl : rs.length + 1 ≤ a) (k : ∀ h1, Gs s SE FE h h1 → RR s o B n (gnS (pS B n) (unS (kS B n) (pS B n) (vS B n) law pg (.ok (a, sf, cs, rs)))) h1 → xI h1 69 55 = xI h 69 55 → xI h1 105 = xI h 105 → K h1) : ClV 197 [.ref 69] h K := by
  obtain ⟨q1, q2, q3, q4, q5, q6, q7, q8, q9, q10⟩ := r.2
  have rb := r.1
  have s2 := rb.2.1
  have a4 := q3.1
  have C := r.C
  have R := r.R
  have us : unS (kS B n) (pS B n) (vS B n) law pg (.ok (a, sf, cs, rs)) = match unC (kS B n) (vS B n) pg a with
    | none => .error (1, pS B n a)
    | some c => .ok (a, if law = true ∧ kS B n a = 114 then sfO sf (some (6, pS B n a)) else sf, apC cs c, rs ++ [c]) := rfl
  have ki : ∀ x, isM (kS B n) x (.ok (a, sf, cs, rs)) = if kS B n a = x then 1 else 0 := fun x => rfl
  have put : ∀ (c : Cd) (x1 x2 : Int32) (sf' : Option (Nat × Nat)) (h1 : XH), Gs s SE FE h h1 → RBs s B n h1 → xI h1 69 13 = nI 0 → xI h1 69 11 = nI a → xI h1 69 12 = nI o → sfV sf' h1 → (∀ x y, sf' = some (x, y) → y ≤ pS B n a) → cdR s rs h1 → (∀ h2, Gs s [103, 104] [51] h1 h2 → rfR s (rs ++ [c]) h2) → x1 = nI (rcK c) → x2 = nI (rcV c) → xI h1 69 55 = xI h 69 55 → xI h1 105 = xI h 105 → unC (kS B n) (vS B n) pg a = some c → (if law = true ∧ kS B n a = 114 then sfO sf (some (6, pS B n a)) else sf) = sf' → 2 ≤ kS B n a → ClV 198 [.ref 69, .int x1, .int x2] h1 (fun h30 => Sh h30 ∧ (ClV 190 [.ref 69] h30 (fun h32 => Sh h32 ∧ (Value.null = Value.null ∧ K h32)))) := by
    intro c x1 x2 sf' h1 g1 rb1 e13 e11 e12 v le C1 R1 ex1 ex2 w1 w2 uc esf hk
    rw [uc] at us
    dsimp only at us
    rw [esf] at us
    rw [us] at k
    refine c_emit (c := c) rb1.1 s2 C1 (by omega) ex1 ex2 (fun h2 g2 C2 => ?_)
    have gg : Gs s SE FE h h2 := g1.tr (g2.mono (by decide) (by decide))
    have rb2 := rb.gx gg
    refine ⟨rb2.1, c_goesU (cs := apC cs c) rb2 (by rw [g2.f (by decide)]; exact e13) (by rw [g2.f (by decide)]; exact e11) q3 hk (sf := sf') ?_ le (by rw [g2.f (by decide)]; exact e12) (by rw [ap1]; omega) C2 (R1 h2 g2) (fun h3 g3 r3 => ⟨r3.sh, rfl, k h3 (gg.tr (g3.mono (by decide) (by decide))) r3 ?_ ?_⟩)⟩
    · unfold sfV
      rw [g2.f (by decide), g2.f (by decide)]
      exact v
    · rw [g3.f (by decide), g2.f (by decide)]; exact w1
    · rw [g3.at (by decide) (by decide), g2.at (by decide) (by decide)]; exact w2
  refine B_197_0 r.sh (c_is (x := 3) (by decide) r ⟨r.sh, fun z3 => ?_, fun z3 => ?_⟩)
  · rw [ki] at z3
    have n3 : kS B n a ≠ 3 := fun q => by rw [if_pos q] at z3; exact absurd z3 (by decide)
    refine c_is (x := 2) (by decide) r ⟨r.sh, fun z2 => ?_, fun z2 => ?_⟩
    · rw [ki] at z2
      have n2 : kS B n a ≠ 2 := fun q => by rw [if_pos q] at z2; exact absurd z2 (by decide)
      refine c_is (x := 114) (by decide) r ⟨r.sh, fun z4 => ?_, fun z4 => ?_⟩
      · rw [ki] at z4
        have n4 : kS B n a ≠ 114 := fun q => by rw [if_pos q] at z4; exact absurd z4 (by decide)
        refine c_is (x := 115) (by decide) r ⟨r.sh, fun z5 => ?_, fun z5 => ?_⟩
        · rw [ki] at z5
          have n5 : kS B n a ≠ 115 := fun q => by rw [if_pos q] at z5; exact absurd z5 (by decide)
          have uc : unC (kS B n) (vS B n) pg a = none := by unfold unC; rw [if_neg n3, if_neg n2, if_neg n5, if_neg n4]
          rw [uc] at us
          rw [us] at k
          exact c_fail (x := 1) (by decide) r (fun c hc => by cases hc; show rs.length ≤ 402; omega) (fun h1 g r1 w1 w2 => ⟨r1.sh, rfl, k h1 g r1 w1 w2⟩)
        · rw [ki] at z5
          have k5 : kS B n a = 115 := Classical.byContradiction (fun q => z5 (by rw [if_neg q]; rfl))
          have uc : unC (kS B n) (vS B n) pg a = some (1, 14) := by unfold unC; rw [k5]; rfl
          exact put (1, 14) 1 15 sf h Gs.rf rb q1 q2 q5 q4.v (fun x y e => Nat.le_of_lt (q4.lt x y e)) C (fun h2 g2 => R.no (by decide) (g2.f (by decide)) (g2.at (by decide) (by decide)) (g2.at (by decide) (by decide))) rfl rfl rfl rfl uc (by rw [if_neg (fun q => by have := q.2; omega)]) (by omega)
      · rw [ki] at z4
        have k4 : kS B n a = 114 := Classical.byContradiction (fun q => z4 (by rw [if_neg q]; rfl))
        have uc : unC (kS B n) (vS B n) pg a = some (12, 8 + pg) := by unfold unC; rw [k4]; rfl
        rw [e42, q2]
        cases law with
        | false =>
          refine ⟨fun _ => ?_, fun z => absurd rfl z⟩
          exact put (12, 8 + pg) 1 14 sf h Gs.rf rb q1 q2 q5 q4.v (fun x y e => Nat.le_of_lt (q4.lt x y e)) C (fun h2 g2 => R.no (show (12 : Nat) ≠ 11 by decide) (g2.f (by decide)) (g2.at (by decide) (by decide)) (g2.at (by decide) (by decide))) rfl rfl rfl rfl uc (by rw [if_neg (fun q => by cases q.1)]) (by omega)
        | true =>
          refine ⟨fun z => absurd z (by decide), fun _ => c_wrong (x := 6) (by decide) rb q1 q3 q4.v q4.lt (fun h1 g1 v1 => ?_)⟩
          have gg : Gs s SE FE h h1 := g1.mono (by decide) (by decide)
          have rb1 := rb.gx gg
          refine ⟨rb1.1, put (12, 8 + pg) 1 14 _ h1 gg rb1 (by rw [g1.f (by decide)]; exact q1) (by rw [g1.f (by decide)]; exact q2) (by rw [g1.f (by decide)]; exact q5) v1 (fun x y e => ?_) ?_ (fun h2 g2 => R.no (show (12 : Nat) ≠ 11 by decide) (by rw [g2.f (by decide), g1.f (by decide)]) (by rw [g2.at (by decide) (by decide), g1.at (by decide) (by decide)]) (by rw [g2.at (by decide) (by decide), g1.at (by decide) (by decide)])) rfl rfl (by rw [g1.f (by decide)]) (by rw [g1.at (by decide) (by decide)]) uc (by rw [if_pos ⟨rfl, k4⟩]) (by omega)⟩
          · match sf, q4, e with
            | none, q4, e => cases e; exact Nat.le_refl _
            | some (x', y'), q4, e => cases e; exact Nat.le_of_lt (q4.lt x y rfl)
          · unfold cdR
            rw [g1.f (by decide), g1.at (by decide) (by decide), g1.at (by decide) (by decide)]
            exact C
    · rw [ki] at z2
      have k2 : kS B n a = 2 := Classical.byContradiction (fun q => z2 (by rw [if_neg q]; rfl))
      have uc : unC (kS B n) (vS B n) pg a = some (11, a) := by unfold unC; rw [k2]; rfl
      have rl := rfA_len rs 0
      have i39 : xI (xsI h 94 (rfA 0 rs).length (nI (420 * s + rs.length))) 69 39 = nI (rfA 0 rs).length := by rw [xI_n (by decide)]; exact q9
      have i11 : xI (xsI h 94 (rfA 0 rs).length (nI (420 * s + rs.length))) 69 11 = nI a := by rw [xI_n (by decide)]; exact q2
      rw [q9, tn_nI (show (rfA 0 rs).length < 2 ^ 31 by omega), q7, i39, tn_nI (show (rfA 0 rs).length < 2 ^ 31 by omega), i11]
      refine ⟨inb (by omega) (by decide), inb (by omega) (by decide), fun h1 eh => ?_⟩
      have j39 : xI h1 69 39 = nI (rfA 0 rs).length := by rw [eh, xI_n (by decide)]; exact i39
      rw [j39, nI_1]
      have gz : Gs s SE FE h (xsI h1 69 39 (nI ((rfA 0 rs).length + 1))) := by rw [eh]; exact ((Gs.rf.set (by decide) (by decide)).set (by decide) (by decide)).fld (by decide)
      have z94 : xI (xsI h1 69 39 (nI ((rfA 0 rs).length + 1))) 94 = up (xI h 94) (rfA 0 rs).length (nI (420 * s + rs.length)) := by rw [xI_n (by decide), eh, xI_n (by decide), xI_s]
      have z95 : xI (xsI h1 69 39 (nI ((rfA 0 rs).length + 1))) 95 = up (xI h 95) (rfA 0 rs).length (nI a) := by rw [xI_n (by decide), eh, xI_s, xI_n (by decide)]
      have z39 : xI (xsI h1 69 39 (nI ((rfA 0 rs).length + 1))) 69 39 = nI ((rfA 0 rs).length + 1) := xI_ss
      have zf : ∀ j, j ≠ 39 → xI (xsI h1 69 39 (nI ((rfA 0 rs).length + 1))) 69 j = xI h 69 j := fun j hj => by rw [xI_sd hj, eh, xI_n (by decide), xI_n (by decide)]
      have zo : ∀ c, c ≠ 69 → c ≠ 94 → c ≠ 95 → xI (xsI h1 69 39 (nI ((rfA 0 rs).length + 1))) c = xI h c := fun c c1 c2 c3 => by rw [xI_n c1, eh, xI_n c3, xI_n c2]
      generalize xsI h1 69 39 (nI ((rfA 0 rs).length + 1)) = hz at *
      have rbz := rb.gx gz
      refine put (11, a) 1 0 sf hz gz rbz (by rw [zf 13 (by decide)]; exact q1) (by rw [zf 11 (by decide)]; exact q2) (by rw [zf 12 (by decide)]; exact q5) ?_ (fun x y e => Nat.le_of_lt (q4.lt x y e)) ?_ (fun h2 g2 => ?_) rfl rfl (zf 55 (by decide)) (zo 105 (by decide) (by decide) (by decide)) uc (by rw [if_neg (fun q => by have := q.2; omega)]) (by omega)
      · unfold sfV
        rw [zf 15 (by decide), zf 16 (by decide)]
        exact q4.v
      · unfold cdR
        rw [zf 51 (by decide), zo 103 (by decide) (by decide) (by decide), zo 104 (by decide) (by decide) (by decide)]
        exact C
      · have er : rfA 0 (rs ++ [(11, a)]) = rfA 0 rs ++ [(rs.length, a)] := by rw [rfA_s, if_pos rfl, Nat.zero_add]
        unfold rfR
        rw [er, ap1, g2.f (by decide), g2.at (by decide) (by decide), g2.at (by decide) (by decide), z39, z94, z95]
        refine ⟨rfl, fun i hi => ?_⟩
        by_cases q : i = (rfA 0 rs).length
        · subst q
          rw [up_same, up_same, rfG_r]
          exact ⟨rfl, rfl⟩
        · rw [up_ne q, up_ne q, rfG_l (by omega)]
          exact q10 i (by omega)
  · rw [ki] at z3
    have k3 : kS B n a = 3 := Classical.byContradiction (fun q => z3 (by rw [if_neg q]; rfl))
    have uc : unC (kS B n) (vS B n) pg a = some (0, vS B n a) := by unfold unC; rw [if_pos k3]
    have v74 : xI h 74 a = nI (vS B n a) := (rb.2.2.2.1 a q3).2.2.2 k3
    rw [q2, tn_nI (show a < 2 ^ 31 by omega), v74]
    exact ⟨inb (by omega) (by decide), put (0, vS B n a) 0 _ sf h Gs.rf rb q1 q2 q5 q4.v (fun x y e => Nat.le_of_lt (q4.lt x y e)) C (fun h2 g2 => R.no (show (0 : Nat) ≠ 11 by decide) (g2.f (by decide)) (g2.at (by decide) (by decide)) (g2.at (by decide) (by decide))) rfl rfl rfl rfl uc (by rw [if_neg (fun q => by have := q.2; omega)]) (by omega)⟩
end RXP

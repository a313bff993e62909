/-! READING: a whole page of the other side -/
section RPH
variable {s o : Nat} {B : Nat → Nat} {n : Nat} {h h0 h1 h2 : XH} {m : Md} {a a' : Nat} {sf sf' : Option (Nat × Nat)} {cs rs : List Cd} {Q : Value → XH → Prop} {NM : List (List Nat × Nat)} {nm : List Nat} {F : List Fa} {G : List Pg} {LW : List Lw} {BR : List Br} {sl sd pg : Nat} {st : St}
theorem l_p162f {e : Nat × Nat} {i : Nat} {x2 : Int32} (hi : 6 * s ≤ i ∧ i < 6 * s + 6) (r : RR s 0 B n m h) (em : tkS (kS B n) (pS B n) 59 m = .error e) (kk : ∀ h1, Rs s h h1 → RR s 0 B n (.error e) h1 → Q .null h1) : Ev 201 162 [.ref 69, .int (nI i), .int x2] [] h Q := by
  have s2 : s < 2 := r.1.2.1
  refine B_201_162 r.sh (c_must (x := 59) (by decide) (by decide) r (fun h1 g1 r1 => ⟨r1.sh, inb (by omega) (by decide), ?_⟩))
  rw [em] at r1
  rw [tn_nI (show i < 2 ^ 31 by omega)]
  have gA : ∀ v : Int32, Gs s [87] [] h1 (xsI h1 87 i v) := fun v => Gs.rf.set (by decide) (by decide)
  have rA : ∀ v : Int32, RR s 0 B n (.error e) (xsI h1 87 i v) := fun v => r1.gx (gA v) (by decide) (by decide)
  exact ⟨fun z => absurd z (rA _).ne.2.1, fun _ => kk _ ((gsE g1).tr ((gA _).rS (by decide) (by decide))) (rA _)⟩
theorem l_p92e {e : Nat × Nat} {i : Nat} {x2 : Int32} (hi : 6 * s ≤ i ∧ i < 6 * s + 6) (r : RR s 0 B n (.error e) h) (kk : ∀ h1, Rs s h h1 → RR s 0 B n (.error e) h1 → Q .null h1) : Ev 201 92 [.ref 69, .int (nI i), .int x2] [] h Q := by
  have s2 : s < 2 := r.1.2.1
  refine B_201_92 r.sh ⟨inb (by omega) (by decide), ?_⟩
  rw [tn_nI (show i < 2 ^ 31 by omega)]
  have gA : ∀ v : Int32, Gs s [86] [] h (xsI h 86 i v) := fun v => Gs.rf.set (by decide) (by decide)
  have rA := r.gx (gA (xI h 69 32)) (by decide) (by decide)
  refine B_202_0 rA.sh ⟨fun z => absurd z rA.ne.2.1, fun _ => ⟨rfl, rA.sh, B_201_106 rA.sh ⟨fun _ => l_p162e hi rA (fun h1 g1 r1 => kk h1 (((gA _).rS (by decide) (by decide)).tr g1) r1), fun z => absurd rA.ne.1 z⟩⟩⟩
theorem c_pageR {K : XH → Prop} (r : RR s 0 B n (.ok (a, sf, cs, rs)) h) (x : rST s a sf (F, G, LW, BR, sl, sd, pg) h) (ka : kS B n a = 104) (hG : G.length < 6) (e42 : xI h 69 42 = 0) (k : ∀ h1, Rs s h h1 → tS s B n (lift (pgS B n F G a (.ok (a, sf, cs, rs))) (F, G ++ [pgN B n F G a (.ok (a, sf, cs, rs))], LW, BR, sl, sd, G.length)) h1 → K h1) : ClV 201 [.ref 69] h K := by
  have s2 : s < 2 := r.1.2.1
  have e19 : xI h 69 19 = nI s := r.1.2.2.1
  obtain ⟨⟨NM, R, N⟩, x2, x3, x4, x5, x6, x7⟩ := x
  have x4 : gH s G h := x4
  have e84 : xI h 84 s = nI G.length := x4.2.1
  have hr : rch B n a := r.2.2.2.1
  have q4 : sfP B n a sf h := r.2.2.2.2.1
  have ix : (6 : Int32) * nI s + nI G.length = nI (6 * s + G.length) := by rw [show (6 : Int32) = nI 6 from rfl, pk_mul, nI_add]
  have hi : 6 * s ≤ 6 * s + G.length ∧ 6 * s + G.length < 6 * s + 6 := by omega
  have hqn := qn_le (G := G) (fun p hp => (x4.2.2.2 p hp).1) G.length (Nat.le_refl _)
  have ep : pgS B n F G a (.ok (a, sf, cs, rs)) = tkS (kS B n) (pS B n) 59 (pg6 B n F G a (.ok (a, sf, cs, rs))).1 := by unfold pgS; rw [if_pos hG]
  have bad : ∀ e h1, pgS B n F G a (.ok (a, sf, cs, rs)) = .error e → Rs s h h1 → RR s 0 B n (.error e) h1 → K h1 := by
    intro e h1 q g1 r1
    rw [q] at k
    exact k h1 g1 r1
  refine B_201_0 r.sh ?_
  rw [e19, tn_nI (show s < 2 ^ 31 by omega), e84, ix]
  refine ⟨inb s2 (by decide), c_named N r (by omega) (fun v2 h1 g1 r1 hv2 => ⟨r1.sh, ?_⟩)⟩
  have en := nd_eq (B := B) (n := n) (NM := NM) (a := a) (sf := sf) (cs := cs) (rs := rs)
  rw [ka] at en
  have e3 : pg3 B n F G a (tkS (kS B n) (pS B n) 2 (tkS (kS B n) (pS B n) 104 (.ok (a, sf, cs, rs)))) = ndS B n NM a (.ok (a, sf, cs, rs)) := by
    rw [en]
    match hX : tkS (kS B n) (pS B n) 2 (tkS (kS B n) (pS B n) 104 (.ok (a, sf, cs, rs))) with
    | .error e => rfl
    | .ok c =>
      obtain ⟨b1, sf1, cs1, rs1, q1, z1, l1, w1⟩ := tk_ok hX
      obtain ⟨b0, sf0, cs0, rs0, q0, z0, l0, w0⟩ := tk_ok q1
      cases q0
      cases w0
      subst w1
      have p01 : pS B n a < pS B n (a + 1) := by
        refine pS_lt (Classical.byContradiction (fun q => ?_))
        have : kS B n a = 0 := by unfold kS; rw [if_neg q]
        omega
      have hl : ∀ x y, sf = some (x, y) → y < pS B n (a + 1) := fun x y e => by have := q4.lt x y e; omega
      show (if told (nS B n (a + 1)) F G = true then sftS (pS B n) 3 (a + 1) (.ok (a + 1 + 1, sf, cs, rs)) else .ok (a + 1 + 1, sf, cs, rs)) = _
      by_cases ht : told (nS B n (a + 1)) F G = true
      · rw [if_pos ht, nmF_has.1 ((hasN_told R).mpr ht), sfW_O hl]; rfl
      · rw [if_neg ht, nmF_has.2 (fun q => ht ((hasN_told R).mp q))]; rfl
  have e4 : pg4 B n F G a (.ok (a, sf, cs, rs)) = shS (kS B n) (pS B n) (ndS B n NM a (.ok (a, sf, cs, rs))) := by rw [← e3]; rfl
  have e6 : pg6 B n F G a (.ok (a, sf, cs, rs)) = cmL (kS B n) (pS B n) (vS B n) G.length 6 (cmS (kS B n) (pS B n) (vS B n) G.length (pg4 B n F G a (.ok (a, sf, cs, rs)))) [cmB (kS B n) (pS B n) (vS B n) G.length (pg4 B n F G a (.ok (a, sf, cs, rs)))] := rfl
  have badP : ∀ e, pg4 B n F G a (.ok (a, sf, cs, rs)) = .error e → pgS B n F G a (.ok (a, sf, cs, rs)) = .error e := by
    intro e q
    rw [ep, e6, q]
    rfl
  have gA : ∀ v : Int32, Gs s [85] [] h1 (xsI h1 85 (6 * s + G.length) v) := fun v => Gs.rf.set (by decide) (by decide)
  have RA : ∀ v : Int32, Rs s h (xsI h1 85 (6 * s + G.length) v) := fun v => (gsE g1).tr ((gA v).rS (by decide) (by decide))
  have ib : InB (nI (6 * s + G.length)) 12 := inb (by omega) (by decide)
  rw [tn_nI (show 6 * s + G.length < 2 ^ 31 by omega)]
  match hm1 : ndS B n NM a (.ok (a, sf, cs, rs)) with
  | .error e =>
    rw [hm1] at r1 e4
    have e4 : pg4 B n F G a (.ok (a, sf, cs, rs)) = .error e := e4
    obtain ⟨_, _, _, _, _, ⟨b, b4, b11⟩, _⟩ := r1.2
    rw [b11]
    have rA : ∀ v : Int32, RR s 0 B n (.error e) (xsI h1 85 (6 * s + G.length) v) := fun v => r1.gx (gA v) (by decide) (by decide)
    have go : ∀ v : Int32, Ev 201 81 [.ref 69, .int (nI (6 * s + G.length)), .int v2] [] (xsI h1 85 (6 * s + G.length) v) (fun r h1 => r = .null ∧ K h1) := fun v => B_201_81 (rA v).sh ⟨fun _ => l_p92e hi (rA v) (fun h3 g3 r3 => ⟨rfl, bad e h3 (badP e e4) ((RA v).tr g3) r3⟩), fun z => absurd (rA v).ne.1 z⟩
    exact ⟨inb (by omega) (by decide), ib, fun _ => go _, fun z => absurd (rA _).ne.1 z⟩
  | .ok c1 =>
    have hv2 := hv2 _ hm1
    subst hv2
    rw [hm1] at en
    match hX : tkS (kS B n) (pS B n) 2 (tkS (kS B n) (pS B n) 104 (.ok (a, sf, cs, rs))) with
    | .error e => rw [hX] at en; cases en
    | .ok c =>
    obtain ⟨b1, sf1, cs1, rs1, q1, z1, l1, w1⟩ := tk_ok hX
    obtain ⟨b0, sf0, cs0, rs0, q0, z0, l0, w0⟩ := tk_ok q1
    cases q0
    cases w0
    subst w1
    rw [hX] at en
    generalize nmF NM (nS B n (a + 1)) 3 (pS B n (a + 1)) NM.length 0 sf = S1 at en
    have en : (.ok c1 : Md) = .ok (a + 2, S1, cs, rs) := en
    cases en
    rw [hm1] at r1 e4
    have k9 := r1.k
    have e11 : xI h1 69 11 = nI (a + 2) := r1.2.2.1
    have ko := kS_ok (B := B) (n := n) (a + 2)
    obtain ⟨rk1, rk2⟩ := rkd_sh (kS B n (a + 2)) ko.2 ko.1
    have rk3 := rkd_lt (kS B n (a + 2)) ko.2
    have e4' : pg4 B n F G a (.ok (a, sf, cs, rs)) = if kS B n (a + 2) = 105 ∨ kS B n (a + 2) = 106 ∨ kS B n (a + 2) = 107 then gnS (pS B n) (.ok (a + 2, S1, cs, rs)) else .error (1, pS B n (a + 2)) := by
      rw [e4]
      show (if kS B n (a + 2) = 105 ∨ kS B n (a + 2) = 106 ∨ kS B n (a + 2) = 107 then (if kS B n (a + 2) = kS B n (a + 2) then gnS (pS B n) (.ok (a + 2, S1, cs, rs)) else _) else _) = _
      rw [if_pos (rfl : kS B n (a + 2) = kS B n (a + 2))]
    have rl : rs.length ≤ a := r.2.2.2.2.2.2.1
    have a24 : a + 2 ≤ 400 := r1.2.2.2.1.1
    rw [e11, tn_nI (show a + 2 < 2 ^ 31 by omega), k9.1]
    have A85 : xI (xsI h1 85 (6 * s + G.length) (nI (rkd (kS B n (a + 2))) - 23)) 85 = up (xI h1 85) (6 * s + G.length) (nI (rkd (kS B n (a + 2))) - 23) := xI_s
    have gA := gA (nI (rkd (kS B n (a + 2))) - 23)
    have RA := RA (nI (rkd (kS B n (a + 2))) - 23)
    generalize xsI h1 85 (6 * s + G.length) (nI (rkd (kS B n (a + 2))) - 23) = hA at gA RA A85 ⊢
    have rA := r1.gx gA (by decide) (by decide)
    have A11 : xI hA 69 11 = nI (a + 2) := by rw [gA.f (by decide)]; exact e11
    have A72 : xI hA 72 (a + 2) = nI (rkd (kS B n (a + 2))) := by rw [gA.at (by decide) (by decide)]; exact k9.1
    rw [A11, tn_nI (show a + 2 < 2 ^ 31 by omega), A72]
    have gA1 : Gs s (85 :: SE) FE h hA := (g1.mono (by decide) (by decide)).tr (gA.mono (by decide) (by decide))
    have l76 : ¬ (kS B n (a + 2) = 105 ∨ kS B n (a + 2) = 106 ∨ kS B n (a + 2) = 107) → Ev 201 76 [.ref 69, .int (nI (6 * s + G.length)), .int (nI (a + 1))] [] hA (fun r h1 => r = .null ∧ K h1) := by
      intro q
      rw [if_neg q] at e4'
      refine B_201_76 rA.sh (c_fail (x := 1) (by decide) rA (fun c hc => by cases hc; show rs.length ≤ 402; omega) (fun h3 g3 r3 _ _ => ⟨r3.sh, ?_⟩))
      have r3 : RR s 0 B n (.error (1, pS B n (a + 2))) h3 := r3
      exact B_201_81 r3.sh ⟨fun _ => l_p92e hi r3 (fun h5 g5 r5 => ⟨rfl, bad _ h5 (badP _ e4') ((RA.tr (gsE g3)).tr g5) r5⟩), fun z => absurd r3.ne.1 z⟩
    have l81 : (kS B n (a + 2) = 105 ∨ kS B n (a + 2) = 106 ∨ kS B n (a + 2) = 107) → Ev 201 81 [.ref 69, .int (nI (6 * s + G.length)), .int (nI (a + 1))] [] hA (fun r h1 => r = .null ∧ K h1) := by
      intro q
      rw [if_pos q] at e4'
      have sh2 := rk2 q
      have e23 : nI (rkd (kS B n (a + 2))) - 23 = nI (shO (kS B n (a + 2))) := by rw [sh2.1, show (23 : Int32) = nI 23 from rfl, pk_sub (by omega), Nat.add_sub_cancel]
      refine B_201_81 rA.sh ⟨fun z => absurd rA.z z, fun _ => c_goesOn rA (fun a' sf' cs' rs' e => by cases e; exact ⟨by omega, by omega⟩) (fun h3 g3 r3 _ _ => ⟨r3.sh, ?_⟩)⟩
      rw [← e4'] at r3
      have l4 : lt1 (pg4 B n F G a (.ok (a, sf, cs, rs))) := by
        rw [e4']
        intro c hc
        have eg : gnS (pS B n) (.ok (a + 2, S1, cs, rs)) = if a + 2 < 400 then .ok (a + 3, S1, cs, rs) else .error (2, pS B n (a + 2)) := rfl
        rw [eg] at hc
        split at hc
        · cases hc
          show rs.length + 1 ≤ a + 3
          omega
        · cases hc
      have e32 : xI h3 69 32 = nI (36 * s + qn G G.length) := by rw [g3.f (by decide), gA1.f (by decide)]; exact x4.2.2.1
      refine B_201_92 r3.sh ⟨ib, ?_⟩
      rw [tn_nI (show 6 * s + G.length < 2 ^ 31 by omega), e32]
      have gB : Gs s [86] [] h3 (xsI h3 86 (6 * s + G.length) (nI (36 * s + qn G G.length))) := Gs.rf.set (by decide) (by decide)
      have B86 : xI (xsI h3 86 (6 * s + G.length) (nI (36 * s + qn G G.length))) 86 = up (xI h3 86) (6 * s + G.length) (nI (36 * s + qn G G.length)) := xI_s
      generalize xsI h3 86 (6 * s + G.length) (nI (36 * s + qn G G.length)) = hB at gB B86 ⊢
      have rB := r3.gx gB (by decide) (by decide)
      have B42 : xI hB 69 42 = 0 := by rw [gB.f (by decide), g3.f (by decide), gA1.f (by decide)]; exact e42
      have GB : Gs s (85 :: 86 :: SE) FE h hB := ((gA1.mono (by decide) (by decide)).tr (g3.mono (by decide) (by decide))).tr (gB.mono (by decide) (by decide))
      refine c_claimR (pg := G.length) (q := 36 * s + qn G G.length) rB B42 l4 (by omega) (by rw [gB.f (by decide)]; exact e32) (fun h5 g5 r5 l5 t1 t2 t3 => ⟨r5.sh, ?_⟩)
      have B86' : xI h5 86 (6 * s + G.length) = nI (36 * s + qn G G.length) := by rw [g5.at (by decide) (by decide), B86, up_same]
      have G5 : Gs s (85 :: 86 :: SQ) FQ h h5 := (GB.mono (by decide) (by decide)).tr (g5.mono (by decide) (by decide))
      have R5 : Rs s h h5 := G5.rS (by decide) (by decide)
      refine l_moreR (h0 := h5) (g := G.length) (q := 36 * s + qn G G.length) (i := 6 * s + G.length) (M := pg6 B n F G a (.ok (a, sf, cs, rs))) (by omega) (by omega) (by rw [g5.f (by decide)]; exact B42) B86' (fun h7 g7 r7 ck7 cq7 => ?_) (fun e h7 g7 r7 e7 => ⟨rfl, bad e h7 (by rw [ep, e7]; rfl) (R5.tr (g7.rS (by decide) (by decide))) r7⟩) 6 _ [cmB (kS B n) (pS B n) (vS B n) G.length (pg4 B n F G a (.ok (a, sf, cs, rs)))] h5 Gs.rf r5 l5 rfl (show 1 ≤ 6 by decide) (fun c hc => ?_) (fun j _ => ⟨rfl, rfl, rfl, rfl⟩) e6
      · have R7 : Rs s h h7 := R5.tr (g7.rS (by decide) (by decide))
        match hp : tkS (kS B n) (pS B n) 59 (pg6 B n F G a (.ok (a, sf, cs, rs))).1 with
        | .error e => exact l_p162f hi r7 hp (fun h9 g9 r9 => ⟨rfl, bad e h9 (by rw [ep, hp]) (R7.tr g9) r9⟩)
        | .ok co =>
          have ml : mle 7 (.ok (a, sf, cs, rs)) (tkS (kS B n) (pS B n) 59 (pg6 B n F G a (.ok (a, sf, cs, rs))).1) := (mle.p6.tr mle.tk)
          obtain ⟨c0, ec0, cl0, cn0, _⟩ := ml co hp
          cases ec0
          obtain ⟨cp, ecp, _⟩ := tk_at hp
          obtain ⟨cq1, cq2⟩ := cq7 cp ecp
          have G7 : Gs s (85 :: 86 :: SQ) FQ h h7 := G5.tr (g7.mono (by decide) (by decide))
          have X7 : Rx (85 :: 86 :: SQ) [] FQ h h7 := G7.gx.rx
          have cl0 : a + 7 ≤ co.1 := cl0
          have cn0 : co.2.1 = none → sf = none := cn0
          rw [ep, hp] at k
          have CK : cK (36 * s + qn G G.length) h h7 := ((cK.gs (q := 36 * s + qn G G.length) GB (by decide)).tr (fun j hj => t1 j (by omega))).tr ck7
          refine l_p162 (x := pgN B n F G a (.ok (a, sf, cs, rs))) (F := F) (NM := NM) (LW := LW) (BR := BR) (sl := sl) (sd := sd) (pg := G.length) (j := a + 1) r7 hp hG R (N.rx X7 (by decide) (by decide) (by decide)) (x2.rx X7 (by decide)) (x3.rx X7 (by decide) cn0) (x5.rx X7 (by decide) (by decide) (by omega)) (fun e => (x6 (cn0 e)).rx X7 (by decide)) (x7.rx X7 (by decide)) (r1.2.2.2.1.lt (by omega)) z1 rfl (by rw [X7.at (by decide) (by decide)]; exact e84) ?_ (by rw [g7.at (by decide) (by decide)]; exact B86') cq1 cq2 (fun p hp' => ?_) (fun h9 g9 r9 t9 => ⟨rfl, k h9 (R7.tr g9) ⟨r9, t9⟩⟩)
          · rw [g7.at (by decide) (by decide), g5.at (by decide) (by decide), gB.at (by decide) (by decide), g3.at (by decide) (by decide), A85, up_same, e23]
            rfl
          · obtain ⟨y1, y2, y3, y4, y5⟩ := x4.2.2.2 p hp'
            refine ⟨y1, ?_, ?_, by rw [X7.at (by decide) (by decide)]; exact y4, fun c hc => ?_⟩
            · rw [g7.at (by decide) (by decide), g5.at (by decide) (by decide), gB.at (by decide) (by decide), g3.at (by decide) (by decide), A85, up_ne (by omega), g1.at (by decide) (by decide)]
              exact y2
            · rw [g7.at (by decide) (by decide), g5.at (by decide) (by decide), B86, up_ne (by omega), g3.at (by decide) (by decide), gA1.at (by decide) (by decide)]
              exact y3
            · have := y5 c hc
              have mo := qn_mo (G := G) (G.length - (p + 1)) (p + 1)
              rw [show p + 1 + (G.length - (p + 1)) = G.length by omega] at mo
              have mo' : qn G p + (pgA G p).2.2.length ≤ qn G G.length := mo
              obtain ⟨u1, u2, u3, u4⟩ := CK (36 * s + qn G p + c) (by omega)
              unfold qR at this ⊢
              rw [u1, u2, u3, u4]
              exact this
      · obtain ⟨u1, u2⟩ := t3 c hc
        refine ⟨u1, fun c' hc' => ?_⟩
        have : c' = 0 := by simp at hc'; exact hc'
        subst this
        exact u2
    refine ⟨inb (by omega) (by decide), ib, fun z => absurd rA.z z, fun _ => ⟨inb (by omega) (by decide), fun z => l76 (fun q => ?_), fun z => ⟨inb (by omega) (by decide), fun z2 => l81 (rk1.mp ⟨?_, ?_⟩), fun z2 => l76 (fun q => ?_)⟩⟩⟩
    · have := (nI_ltI (b := 23) (by omega) (by decide)).mp z
      have := rk1.mpr q
      omega
    · exact Classical.byContradiction (fun q => z (nI_lt (b := 23) (by omega) (by decide)))
    · exact (nI_leI (b := 25) (by omega) (by decide)).mp z2
    · exact z2 (nI_le (b := 25) (rk1.mpr q).2 (by decide))
end RPH

/-! READING: a whole fact of the other side, to its end -/
section RFC
variable {s o : Nat} {B : Nat → Nat} {n : Nat} {h h0 h1 h2 : XH} {m : Md} {a a' : Nat} {sf sf' : Option (Nat × Nat)} {cs rs : List Cd} {Q : Value → XH → Prop} {NM : List (List Nat × Nat)} {nm : List Nat} {F : List Fa} {G : List Pg} {LW : List Lw} {BR : List Br} {sl sd pg : Nat} {st : St}
theorem sfO_n {x y : Option (Nat × Nat)} (h : sfO x y = none) : x = none := by
  match x, h with
  | none, _ => rfl
theorem sfW_n {x : Option (Nat × Nat)} {i p : Nat} (h : sfW x i p = none) : False := by
  match x, h with
  | none, h => cases h
  | some (x', y), h =>
    have h : (if y < p then some (x', y) else if p = y ∧ ¬ i < x' then some (x', y) else some (i, p)) = none := h
    split at h
    · cases h
    · split at h <;> cases h
theorem c_factR {K : XH → Prop} (r : RR s 0 B n (.ok (a, sf, cs, rs)) h) (x : rST s a sf (F, G, LW, BR, sl, sd, pg) h) (ka : kS B n a = 100) (hF : F.length < 8) (k : ∀ h1, Rs s h h1 → tS s B n (lift (faS B n F G a (.ok (a, sf, cs, rs))) (F ++ [faN B n a], G, LW, BR, sl, sd, pg)) h1 → K h1) : ClV 188 [.ref 69] h K := by
  have s2 : s < 2 := r.1.2.1
  have e19 : xI h 69 19 = nI s := r.1.2.2.1
  obtain ⟨⟨NM, R, N⟩, x2, x3, x4, x5, x6, x7⟩ := x
  have e79 : xI h 79 s = nI F.length := x2.2.1
  have hr : rch B n a := r.2.2.2.1
  have q4 : sfP B n a sf h := r.2.2.2.2.1
  have ix : (8 : Int32) * nI s + nI F.length = nI (8 * s + F.length) := by rw [show (8 : Int32) = nI 8 from rfl, pk_mul, nI_add]
  have ef : faS B n F G a (.ok (a, sf, cs, rs)) = jdM B n F G a (fa6 B n (.ok (a, sf, cs, rs))) := by unfold faS; rw [if_pos hF]
  have e6 : fa6 B n (.ok (a, sf, cs, rs)) = tkS (kS B n) (pS B n) 59 (whS B n (fa4 B n (.ok (a, sf, cs, rs)))) := rfl
  have e4 : fa4 B n (.ok (a, sf, cs, rs)) = tkS (kS B n) (pS B n) 3 (tkS (kS B n) (pS B n) 3 (tkS (kS B n) (pS B n) 2 (tkS (kS B n) (pS B n) 100 (.ok (a, sf, cs, rs))))) := rfl
  have bad : ∀ e h1, fa6 B n (.ok (a, sf, cs, rs)) = .error e → Rs s h h1 → RR s 0 B n (.error e) h1 → K h1 := by
    intro e h1 q g1 r1
    rw [q] at ef
    have ef : faS B n F G a (.ok (a, sf, cs, rs)) = .error e := ef
    rw [ef] at k
    exact k h1 g1 r1
  have gw : ∀ {ha hb : XH}, Gs s (82 :: SE) FE ha hb → Rs s ha hb := fun g => g.rS (by decide) (by decide)
  refine B_188_0 r.sh ?_
  rw [e19, tn_nI (show s < 2 ^ 31 by omega), e79, ix]
  refine ⟨inb s2 (by decide), c_named N r (by omega) (fun v2 h1 g1 r1 hv2 => ⟨r1.sh, ?_⟩)⟩
  have en := nd_eq (B := B) (n := n) (NM := NM) (a := a) (sf := sf) (cs := cs) (rs := rs)
  rw [ka] at en
  generalize eS1 : nmF NM (nS B n (a + 1)) 3 (pS B n (a + 1)) NM.length 0 sf = S1 at en
  rw [en] at r1 hv2
  refine c_boundM (lo := 1) (hi := 3) (by decide) (by decide) r1 (fun v4 h3 g3 r3 hv4 => ⟨r3.sh, ?_⟩)
  have g13 : Gs s SE FE h h3 := g1.tr g3
  rw [bd_eq] at r3 hv4
  generalize hX : tkS (kS B n) (pS B n) 2 (tkS (kS B n) (pS B n) 100 (.ok (a, sf, cs, rs))) = X at r1 r3 hv2 hv4 e4
  have atX : atM (sfM S1 X) = atM X := by cases X with | error e => rfl | ok c => rfl
  rw [atX] at hv4
  match hm3 : tkS (kS B n) (pS B n) 3 X with
  | .error e =>
    rw [hm3] at r3 e4
    have e4 : fa4 B n (.ok (a, sf, cs, rs)) = .error e := e4
    rw [e4] at e6
    have e6 : fa6 B n (.ok (a, sf, cs, rs)) = .error e := e6
    have r3 : RR s 0 B n (.error e) h3 := r3
    have tail : ∀ (x3' x4' x5' : Int32) (h5 : XH), Gs s SE FE h3 h5 → RR s 0 B n (.error e) h5 → _ := fun x3' x4' x5' h5 g5 r5 => l_fT (F := F) (x2 := v2) (x3 := x3') (x4 := x4') (x5 := x5') (Q := fun r h1 => r = .null ∧ K h1) r5 hF (fun h7 g7 r7 _ => l_f104e r7 (fun h9 g9 r9 => ⟨rfl, bad e h9 e6 ((gsE (g13.tr g5)).tr ((gw g7).tr (gsE g9))) r9⟩))
    exact ⟨fun _ => c_boundE r3 (fun h5 g5 r5 => ⟨r5.sh, tail _ _ _ h5 g5 r5⟩), fun _ => c_boundE r3 (fun h5 g5 r5 => ⟨r5.sh, tail _ _ _ h5 g5 r5⟩)⟩
  | .ok c3 =>
    obtain ⟨b2, sfb, csb, rsb, eX, z2, l2, w2⟩ := tk_ok hm3
    rw [eX] at hX
    obtain ⟨b1, sf1, cs1, rs1, q1, z1, l1, w1⟩ := tk_ok hX
    obtain ⟨b0, sf0, cs0, rs0, q0, z0, l0, w0⟩ := tk_ok q1
    cases q0
    cases w0
    cases w1
    subst w2
    have aX : atM X = a + 2 := by rw [eX]; rfl
    rw [hm3] at r3 hv4
    have r3 : RR s 0 B n (.ok (a + 3, if vS B n (atM X) < 1 ∨ 3 < vS B n (atM X) then sfO S1 (some (5, pS B n (atM X))) else S1, cs, rs)) h3 := r3
    have hv4 := hv4 _ rfl
    rw [eX] at r1
    have r1 : RR s 0 B n (.ok (a + 2, S1, cs, rs)) h1 := r1
    have hv2 := hv2 _ (by rw [eX]; rfl)
    have e11 : xI h1 69 11 = nI (a + 2) := r1.2.2.1
    rw [aX] at r3 hv4
    have vl2 : vS B n (a + 2) < 10000 := vS_lt z2
    have hr3 : rch B n (a + 3) := r3.2.2.2.1
    have a34 := hr3.1
    subst hv2 hv4
    rw [e11]
    generalize eS2 : (if vS B n (a + 2) < 1 ∨ 3 < vS B n (a + 2) then sfO S1 (some (5, pS B n (a + 2))) else S1) = S2 at r3
    have body : ∀ (hi : Nat) (v6 : Int32) (h5 : XH), hi = (if 3 ≤ vS B n (a + 2) then 3 else vS B n (a + 2)) → Gs s SE FE h3 h5 → RR s 0 B n (bdS B n 0 hi (.ok (a + 3, S2, cs, rs))) h5 → (∀ c, bdS B n 0 hi (.ok (a + 3, S2, cs, rs)) = .ok c → v6 = nI (vS B n (a + 3))) →
        InB (nI (8 * s + F.length)) 16 ∧ (ClI 185 [.ref 69, .int 32] (xsI h5 82 (tn (nI (8 * s + F.length))) 0) (fun v8 h7 => Sh h7 ∧ (((¬ v8 = 0) → Ev 188 80 [.ref 69, .int (nI (8 * s + F.length)), .int (nI (a + 1)), .int (nI (a + 2)), .int (nI (vS B n (a + 2))), .int v6] [] h7 (fun r h1 => r = .null ∧ K h1)) ∧ (¬ (¬ v8 = 0) → ClI 185 [.ref 69, .int 33] h7 (fun v10 h9 => Sh h9 ∧ (((v10 = 0) → Ev 188 104 [.ref 69, .int (nI (8 * s + F.length)), .int (nI (a + 1)), .int (nI (a + 2)), .int (nI (vS B n (a + 2))), .int v6] [] h9 (fun r h1 => r = .null ∧ K h1)) ∧ (¬ (v10 = 0) → Ev 188 80 [.ref 69, .int (nI (8 * s + F.length)), .int (nI (a + 1)), .int (nI (a + 2)), .int (nI (vS B n (a + 2))), .int v6] [] h9 (fun r h1 => r = .null ∧ K h1)))))))) := by
      intro hi v6 h5 ehi g5 r5 hv6
      have eb : bdS B n 0 hi (.ok (a + 3, S2, cs, rs)) = sfM (if vS B n (a + 3) < 0 ∨ hi < vS B n (a + 3) then sfO S2 (some (5, pS B n (a + 3))) else S2) (tkS (kS B n) (pS B n) 3 (.ok (a + 3, sf, cs, rs))) := bd_eq (m := .ok (a + 3, sf, cs, rs)) (S := S2)
      rw [eb] at r5 hv6
      generalize eS3 : (if vS B n (a + 3) < 0 ∨ hi < vS B n (a + 3) then sfO S2 (some (5, pS B n (a + 3))) else S2) = S3 at r5 hv6
      have e4 : fa4 B n (.ok (a, sf, cs, rs)) = tkS (kS B n) (pS B n) 3 (.ok (a + 3, sf, cs, rs)) := by rw [e4, hm3]
      rw [← e4] at r5 hv6
      have g15 : Gs s SE FE h h5 := g13.tr g5
      refine l_fT r5 hF (fun h7 g7 r7 e82 => ?_)
      rw [wh_sfM.1] at r7
      rw [wh_sfM.2] at e82
      refine B_188_104 r7.sh (c_must (x := 59) (by decide) (by decide) r7 (fun h8 g8 r8 => ⟨r8.sh, ?_⟩))
      rw [tk_sfM, ← e6] at r8
      have rs8 : Rs s h h8 := ((gsE g15).tr (gw g7)).tr (gsE g8)
      match hm8 : fa6 B n (.ok (a, sf, cs, rs)) with
      | .error e =>
        rw [hm8] at r8
        have r8 : RR s 0 B n (.error e) h8 := r8
        exact ⟨fun z => absurd z r8.ne.2.1, fun _ => ⟨rfl, bad e h8 hm8 rs8 r8⟩⟩
      | .ok c8 =>
        rw [hm8] at ef r8 e6
        obtain ⟨b5, sf5, cs5, rs5, q5, z5, l5, w5⟩ := tk_ok e6.symm
        have h54 : ∃ c4, fa4 B n (.ok (a, sf, cs, rs)) = .ok c4 := by
          match hc4 : fa4 B n (.ok (a, sf, cs, rs)) with
          | .ok c4 => exact ⟨c4, rfl⟩
          | .error e => rw [hc4] at q5; cases q5
        obtain ⟨c4, h54⟩ := h54
        obtain ⟨b3, sf3, cs3, rs3, q3, z3, l3, w3⟩ := tk_ok (e4.symm.trans h54)
        cases q3
        subst w3
        have ev6 := hv6 (a + 3 + 1, S3, cs, rs) (by rw [h54]; rfl)
        subst ev6
        have vl3 := vS_lt z3
        rw [h54] at q5 e82
        have q5' : b5 ≥ a + 4 ∧ sf5 = sf ∧ cs5 = cs ∧ rs5 = rs := by
          have q5 : (if kS B n (a + 4) = 101 ∨ kS B n (a + 4) = 102 then tkS (kS B n) (pS B n) (kS B n (a + 4)) (.ok (a + 4, sf, cs, rs)) else .ok (a + 4, sf, cs, rs)) = .ok (b5, sf5, cs5, rs5) := q5
          split at q5
          · obtain ⟨c1, c2, c3, c4, c5, c6, c7, c8'⟩ := tk_ok q5
            cases c5
            cases c8'
            exact ⟨by omega, rfl, rfl, rfl⟩
          · cases q5
            exact ⟨Nat.le_refl _, rfl, rfl, rfl⟩
        obtain ⟨b5g, rfl, rfl, rfl⟩ := q5'
        subst w5
        have r8 : RR s 0 B n (.ok (b5 + 1, S3, cs5, rs5)) h8 := r8
        have ef : faS B n F G a (.ok (a, sf5, cs5, rs5)) = jd4 B n F G a (.ok (b5 + 1, sf5, cs5, rs5)) := ef
        have hr8 : rch B n (b5 + 1) := r8.2.2.2.1
        have p12 : pS B n (a + 1) < pS B n (a + 2) := pS_m (hr8.lt (by omega)) (by omega)
        have p23 : pS B n (a + 2) < pS B n (a + 3) := pS_m (hr8.lt (by omega)) (by omega)
        have p01 : pS B n a < pS B n (a + 1) := pS_m (hr8.lt (by omega)) (by omega)
        obtain ⟨w, ww1, ww2, ww3⟩ := x3
        have ww3 : sf5 = none → w = wcF F F.length := ww3
        have x6 : sf5 = none → lH s LW h := x6
        have S1e : S1 = if told (nS B n (a + 1)) F G = true then sfW sf5 3 (pS B n (a + 1)) else sf5 := by
          rw [← eS1]
          by_cases ht : told (nS B n (a + 1)) F G = true
          · rw [if_pos ht, nmF_has.1 ((hasN_told R).mpr ht)]
          · rw [if_neg ht, nmF_has.2 (fun q => ht ((hasN_told R).mp q))]
        have SF := sf_fact (sf := sf5) (t := told (nS B n (a + 1)) F G = true) (p1 := pS B n (a + 1)) (p2 := pS B n (a + 2)) (p3 := pS B n (a + 3)) (v2 := vS B n (a + 2)) (v3 := vS B n (a + 3)) (w := w) (W := wcF F F.length) (fun x y e => by have := q4.lt x y e; omega) p12 p23 ww3
        rw [← S1e, eS2, ← ehi, eS3] at SF
        have ejd : jd4 B n F G a (.ok (b5 + 1, sf5, cs5, rs5)) = .ok (b5 + 1, if (0 < vS B n (a + 2) ∧ vS B n (a + 2) < 4) ∧ 2000 < w * (vS B n (a + 2) + 1) then sfW S3 7 (pS B n (a + 2)) else S3, cs5, rs5) := by
          rw [SF]
          unfold jd4 jd3 jd2 jd1
          split <;> split <;> split <;> split <;> rfl
        generalize eS4 : (if (0 < vS B n (a + 2) ∧ vS B n (a + 2) < 4) ∧ 2000 < w * (vS B n (a + 2) + 1) then sfW S3 7 (pS B n (a + 2)) else S3) = S4 at ejd
        rw [ef, ejd] at k
        have S1n : S1 = none → sf5 = none := fun q => by
          rw [S1e] at q
          split at q
          · exact (sfW_n q).elim
          · exact q
        have S2n : S2 = none → S1 = none ∧ ¬ (vS B n (a + 2) < 1 ∨ 3 < vS B n (a + 2)) := fun q => by
          rw [← eS2] at q
          split at q
          · have := sfO_n q; rw [this] at q; cases q
          · rename_i z; exact ⟨q, z⟩
        have S3n : S3 = none → S2 = none := fun q => by
          rw [← eS3] at q
          split at q
          · exact sfO_n q
          · exact q
        have S4n : S4 = none → S3 = none ∧ ¬ ((0 < vS B n (a + 2) ∧ vS B n (a + 2) < 4) ∧ 2000 < w * (vS B n (a + 2) + 1)) := fun q => by
          rw [← eS4] at q
          split at q
          · exact (sfW_n q).elim
          · rename_i z; exact ⟨q, z⟩
        have e83 : xI h8 83 s = nI w := by rw [g8.at (by decide) (by decide), g7.at (by decide) (by decide), g15.at (by decide) (by decide)]; exact ww2
        have X8 : Rx (82 :: SE) [] FE h h8 := (((g15.gx.rx (L := [])).mono (by decide) (by decide) (by decide)).tr g7.gx.rx).tr ((g8.gx.rx (L := [])).mono (by decide) (by decide) (by decide))
        have f8 : fH s F h8 := by
          obtain ⟨f3, f4, f5⟩ := x2
          refine ⟨f3, by rw [X8.at (by decide) (by decide)]; exact f4, fun f hf => ?_⟩
          rw [X8.at (a := 80) (by decide) (by decide), X8.at (a := 81) (by decide) (by decide), g8.at (a := 82) (by decide) (by decide), e82, up_ne (by have : f < F.length := hf; omega), g15.at (a := 82) (by decide) (by decide)]
          exact f5 f hf
        have f82 : xI h8 82 (8 * s + F.length) = nI (faN B n a).2.2.2 := by
          rw [g8.at (a := 82) (by decide) (by decide), e82, up_same]
          rfl
        have sN : S4 = none → sf5 = none := fun q => S1n (S2n (S3n (S4n q).1)).1
        have fin : ∀ (h9 : XH), Rx [83] [] [15, 16] h8 h9 → othS s h8 h9 → RR s 0 B n (.ok (b5 + 1, S4, cs5, rs5)) h9 → wH s (F ++ [faN B n a]) S4 h9 → Ev 188 174 [.ref 69, .int (nI (8 * s + F.length)), .int (nI (a + 1)), .null, .int (nI (vS B n (a + 2))), .int (nI (vS B n (a + 3)))] [] h9 (fun r h1 => r = .null ∧ K h1) := by
          intro h9 g9 o9 r9 w9
          have X9 : Rx (83 :: 82 :: SE) [] FE h h9 := (X8.mono (by decide) (by decide) (by decide)).tr (g9.mono (by decide) (by decide) (by decide))
          refine l_f174 (x := faN B n a) (G := G) (NM := NM) (LW := LW) (BR := BR) (sl := sl) (sd := sd) (pg := pg) (j := a + 1) r9 hF x4.1 R (N.rx X9 (by decide) (by decide) (by decide)) (f8.rx g9 (by decide)) (by rw [g9.at (by decide) (by decide)]; exact f82) w9 (x4.rx X9 (by decide) (by decide)) (x5.rx X9 (by decide) (by decide) (by omega)) (fun e => (x6 (sN e)).rx X9 (by decide)) (x7.rx X9 (by decide)) (hr8.lt (by omega)) z1 rfl (fun h10 g10 r10 t10 => ⟨rfl, k h10 ((rs8.tr (g9.rS o9 (by decide) (by decide) (by decide))).tr g10) ⟨r10, t10⟩⟩)
        have wcn : wcF (F ++ [faN B n a]) (F ++ [faN B n a]).length = if wcF F F.length * (cl13 (vS B n (a + 2)) + 1) < 2000 then wcF F F.length * (cl13 (vS B n (a + 2)) + 1) else 2000 := by
          rw [ap1]
          show (if wcF (F ++ [faN B n a]) F.length * (cl13 (faA (F ++ [faN B n a]) F.length).2.1 + 1) < 2000 then _ else _) = _
          rw [wcF_l _ (Nat.le_refl _), faA_r]
          rfl
        have e19' : xI h8 69 19 = nI s := r8.1.2.2.1
        refine ⟨fun _ => ?_, fun z => absurd (by rw [r8.z]; decide) z⟩
        have stay : ¬ (0 < vS B n (a + 2) ∧ vS B n (a + 2) < 4) → Ev 188 174 [.ref 69, .int (nI (8 * s + F.length)), .int (nI (a + 1)), .null, .int (nI (vS B n (a + 2))), .int (nI (vS B n (a + 3)))] [] h8 (fun r h1 => r = .null ∧ K h1) := by
          intro q
          have e4' : S4 = S3 := by rw [← eS4, if_neg (fun z => q z.1)]
          refine fin h8 Rx.rf othS.rf (by rw [e4']; exact r8) ⟨w, ww1, e83, fun e => ?_⟩
          have := (S2n (S3n (S4n e).1)).2
          omega
        refine ⟨fun z => stay (fun q => ?_), fun z => ⟨fun z2 => stay (fun q => ?_), fun z2 => ?_⟩⟩
        · exact absurd z (nI_ge (a := 0) (b := vS B n (a + 2)) q.1 (by omega))
        · exact absurd z2 (nI_ge (a := vS B n (a + 2)) (b := 4) q.2 (by decide))
        · have v1 : 0 < vS B n (a + 2) := Classical.byContradiction (fun q => z (nI_le (b := 0) (by omega) (by decide)))
          have v4 : vS B n (a + 2) < 4 := Classical.byContradiction (fun q => z2 (nI_le (a := 4) (by omega) (by omega)))
          have c13 : cl13 (vS B n (a + 2)) = vS B n (a + 2) := by unfold cl13; rw [if_neg (by omega)]; split <;> omega
          have pm : w * (vS B n (a + 2) + 1) ≤ 2000 * 4 := Nat.mul_le_mul ww1 (by omega)
          rw [e19', tn_nI (show s < 2 ^ 31 by omega), e83, nI_1, pk_mul]
          refine ⟨inb s2 (by decide), fun z3 => ⟨inb s2 (by decide), inb s2 (by decide), ?_⟩, fun z3 => ?_⟩
          · have le := (nI_leI (b := 2000) (by omega) (by decide)).mp z3
            have e4' : S4 = S3 := by rw [← eS4, if_neg (fun z => by omega)]
            have g9 : Gs s [83] [] h8 (xsI h8 83 s (nI (w * (vS B n (a + 2) + 1)))) := Gs.rf.set (by decide) (by decide)
            refine fin _ ((g9.gx.rx (L := [])).mono (by decide) (by decide) (by decide)) g9.2.2 (by rw [e4']; exact r8.gx g9 (by decide) (by decide)) ⟨_, le, xI_ss, fun e => ?_⟩
            rw [wcn, c13, ← ww3 (sN e)]
            split <;> omega
          · have gt : 2000 < w * (vS B n (a + 2) + 1) := Classical.byContradiction (fun q => z3 (nI_le (b := 2000) (by omega) (by decide)))
            have e4' : S4 = sfW S3 7 (pS B n (a + 2)) := by rw [← eS4, if_pos ⟨⟨v1, v4⟩, gt⟩]
            refine c_wrongR (x := 7) (j := a + 2) (by decide) r8 (by omega) (fun h9 g9 r9 => ⟨r9.sh, fin h9 ((g9.gx.rx (L := [])).mono (by decide) (by decide) (by decide)) g9.2.2 (by rw [e4']; exact r9) ⟨w, ww1, by rw [g9.at (by decide) (by decide)]; exact e83, fun e => ?_⟩⟩)
            rw [e4'] at e
            exact (sfW_n e).elim
    refine ⟨fun z => ?_, fun z => ?_⟩
    · have v3 : 3 ≤ vS B n (a + 2) := (nI_leI (a := 3) (by decide) (by omega)).mp z
      exact c_bound (lo := 0) (hi := 3) (by decide) (by decide) r3 (fun v6 h5 g5 r5 hv6 => ⟨r5.sh, body 3 v6 h5 (by rw [if_pos v3]) g5 r5 hv6⟩)
    · have v3 : ¬ 3 ≤ vS B n (a + 2) := fun q => z (nI_le (a := 3) q (by omega))
      exact c_bound (lo := 0) (hi := vS B n (a + 2)) (by decide) (by omega) r3 (fun v6 h5 g5 r5 hv6 => ⟨r5.sh, body (vS B n (a + 2)) v6 h5 (by rw [if_neg v3]) g5 r5 hv6⟩)
end RFC

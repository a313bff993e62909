/-! READING: the one side tells the whole text -/
section CFB
variable {it : Nat} {B : Nat → Nat} {n : Nat} {h h0 : XH} {m : Md} {Q : Value → XH → Prop} {F : List Fa} {G : List Pg} {LW : List Lw} {BR : List Br} {sl sd pg : Nat}
theorem RC.ne {e : Nat × Nat} (r : RC it B n (.error e) h) : ¬ xI h 6 1 = (0 : Int32) := fun q => by
  have e4 : xI h 6 1 = nI e.1 := r.2.2.2.2.1
  have e1 : 1 ≤ e.1 := r.2.1
  have e2 : e.1 < 20 := r.2.2.1
  rw [e4] at q
  have := (nI_eq (a := e.1) (b := 0) (by omega) (by decide)).mp q
  omega
theorem l_f93e {e : Nat × Nat} {x1 x2 x3 x4 x5 : Int32} (r : RC it B n (.error e) h) (kk : Q .null h) : Ev 24 93 [.ref 6, .int x1, .int x2, .int x3, .int x4, .int x5] [] h Q :=
  B_24_93 r.sh r.i2 r.r (c_takeE r ⟨r.sh, r.r, fun z => absurd z r.ne, fun _ => kk⟩)
theorem l_f86e {e : Nat × Nat} {x1 x2 x3 x4 x5 : Int32} (r : RC it B n (.error e) h) (kk : Q .null h) : Ev 24 86 [.ref 6, .int x1, .int x2, .int x3, .int x4, .int x5] [] h Q :=
  B_24_86 r.sh r.i2 r.r (c_takeE r ⟨r.sh, r.r, l_f93e r kk⟩)
theorem wc_I {wc c : Nat} (hw : wc ≤ 2000) (hc : c ≤ 3) : (if nI wc * (nI c + 1) < 2000 then nI wc * (nI c + 1) else 2000) = nI (if wc * (c + 1) < 2000 then wc * (c + 1) else 2000) := by
  have hm : wc * (c + 1) ≤ 2000 * 4 := Nat.mul_le_mul hw (by omega)
  rw [nI_1, pk_mul]
  by_cases q : wc * (c + 1) < 2000
  · rw [if_pos q]; exact if_pos (nI_lt (b := 2000) q (by decide))
  · rw [if_neg q]; exact if_neg (fun y => absurd ((nI_ltI (b := 2000) (by omega) (by decide)).mp y) q)
theorem c_fact2 {a : Nat} {sf : Option (Nat × Nat)} {cs rs : List Cd} {K : XH → Prop} (hB : ∀ i, B i < 256) (r : RC it B n (.ok (a, sf, cs, rs)) h) (s : sR it (F, G, LW, BR, sl, sd, pg) h)
    (k : ∀ h1, LI it h h1 → RC it B n (faS B n F G a (.ok (a, sf, cs, rs))) h1 → (∀ c, faS B n F G a (.ok (a, sf, cs, rs)) = .ok c → sR it (F ++ [faN B n a], G, LW, BR, sl, sd, pg) h1) → K h1) : ClV 24 [.ref 6] h K := by
  have hit := r.i2
  have f8 : F.length ≤ 8 := s.1.1
  have f0 : xI h it 0 = nI F.length := s.1.2.1
  refine B_24_0 r.sh r.i2 r.r ?_
  rw [f0]
  refine ⟨fun z => ?_, fun z => ?_⟩
  · have g8 : F.length < 8 := (nI_ltI (b := 8) (by omega) (by decide)).mp z
    have ef : faS B n F G a (.ok (a, sf, cs, rs)) = jdM B n F G a (fa6 B n (.ok (a, sf, cs, rs))) := by unfold faS; rw [if_pos g8]
    refine c_takeM hB (by decide) (by decide) r (fun h1 v1 f1 r1 => ⟨r1.sh, r1.r, c_takeM hB (by decide) (by decide) r1 (fun h3 v3 f3 r3 => ⟨r3.sh, r3.r, c_takeM hB (by decide) (by decide) r3 (fun h5 v5 f5 r5 => ⟨r5.sh, r5.r, c_takeM hB (by decide) (by decide) r5 (fun h7 v7 f7 r7 => ⟨r7.sh, r7.r, ?_⟩)⟩)⟩)⟩)
    have t7 : EX it h h7 := ((f1.tr f3).tr f5).tr f7
    have r7 : RC it B n (fa4 B n (.ok (a, sf, cs, rs))) h7 := r7
    match hm : fa4 B n (.ok (a, sf, cs, rs)) with
    | .error e =>
      rw [hm] at r7
      have e6 : fa6 B n (.ok (a, sf, cs, rs)) = .error e := by unfold fa6 fa5; rw [hm]; rfl
      rw [e6] at ef
      have ef : faS B n F G a (.ok (a, sf, cs, rs)) = .error e := ef
      rw [ef] at k
      have fin : K h7 := k h7 t7.w.si r7 (fun c hc => by cases hc)
      obtain ⟨e1, e2, e3, e4, e5, ⟨b, e6', e7⟩, l, e8, e9⟩ := r7.2
      rw [e7]
      exact ⟨inb (by omega) (by decide), fun _ => l_f86e r7 ⟨rfl, fin⟩, fun _ => ⟨fun _ => l_f93e r7 ⟨rfl, fin⟩, fun _ => l_f86e r7 ⟨rfl, fin⟩⟩⟩
    | .ok (a4, sf4, cs4, rs4) =>
      rw [hm] at r7
      obtain ⟨b3, sf3, cs3, rs3, q3, z3, l3, w3⟩ := tk_ok hm
      obtain ⟨b2, sf2, cs2, rs2, q2, z2, l2, w2⟩ := tk_ok q3
      obtain ⟨b1, sf1, cs1, rs1, q1, z1, l1, w1⟩ := tk_ok q2
      obtain ⟨b0, sf0, cs0, rs0, q0, z0, l0, w0⟩ := tk_ok q1
      cases q0
      cases w0
      cases w1
      cases w2
      cases w3
      have i1 : xI h1 6 5 = nI (a + 1) := by rw [q1] at r1; exact r1.2.2.2.1
      have i3 : xI h3 6 5 = nI (a + 2) := by rw [q2] at r3; exact r3.2.2.2.1
      have i5 : xI h5 6 5 = nI (a + 3) := by rw [q3] at r5; exact r5.2.2.2.1
      have i7 : xI h7 6 5 = nI (a + 4) := r7.2.2.2.1
      have k9 := r7.k
      have kl := kS_lt (n := n) hB (a + 4)
      have k94 : xI h7 8 (a + 4) = nI (kS B n (a + 4)) := k9.1
      have e : ∀ y, y < 256 → (nI (kS B n (a + 4)) = nI y ↔ kS B n (a + 4) = y) := fun y hy => nI_eq (by omega) (by omega)
      rw [i1, i3, i5, i7, tn_nI (show a + 4 < 2 ^ 31 by omega), k94]
      have e5 : fa5 B n (.ok (a, sf, cs, rs)) = if kS B n (a + 4) = 101 ∨ kS B n (a + 4) = 102 then tkS (kS B n) (pS B n) (kS B n (a + 4)) (.ok (a + 4, sf, cs, rs)) else .ok (a + 4, sf, cs, rs) := by unfold fa5; rw [hm]
      have l93 : ∀ hx, EX it h hx → RC it B n (fa5 B n (.ok (a, sf, cs, rs))) hx → (∀ c, fa5 B n (.ok (a, sf, cs, rs)) = .ok c → a + 4 ≤ c.1) → Ev 24 93 [.ref 6, .int (nI F.length), .int (nI (a + 1)), .int (nI (a + 2)), .int (nI (a + 3)), .int (nI (kS B n (a + 4)))] [] hx (fun r h1 => r = .null ∧ K h1) := by
        intro hx fx rx hge
        refine B_24_93 rx.sh rx.i2 rx.r (c_takeM hB (by decide) (by decide) rx (fun h9 v9 f9 r9 => ⟨r9.sh, r9.r, ?_⟩))
        have r9 : RC it B n (fa6 B n (.ok (a, sf, cs, rs))) h9 := r9
        have t9 : EX it h h9 := fx.tr f9
        match hm6 : fa6 B n (.ok (a, sf, cs, rs)) with
        | .error e' =>
          rw [hm6] at r9 ef
          have ef : faS B n F G a (.ok (a, sf, cs, rs)) = .error e' := ef
          rw [ef] at k
          exact ⟨fun z => absurd z r9.ne, fun _ => ⟨rfl, k h9 t9.w.si r9 (fun c hc => by cases hc)⟩⟩
        | .ok (a6, sf6, cs6, rs6) =>
          rw [hm6] at r9 ef
          have ef : faS B n F G a (.ok (a, sf, cs, rs)) = jd4 B n F G a (.ok (a6, sf6, cs6, rs6)) := ef
          rw [ef] at k
          obtain ⟨b5, sf5, cs5, rs5, q5, z5, l5, w5⟩ := tk_ok hm6
          have ge := hge _ q5
          cases w5
          have ge : a + 4 ≤ b5 := ge
          have s9 := s.ew hit t9.w
          refine ⟨fun _ => c_judge (a := a) (by omega) r9 s9 z1 z2 z3 (fun hz fz rz => ⟨rz.sh, rz.r, ?_⟩), fun z => absurd r9.2.1 z⟩
          have sz := s9.ew hit fz.w
          have tz : EX it h hz := t9.tr fz
          have rc9 := r9.2.2.2.2.1
          have rj : ∀ j, j ≤ a + 3 → rch B n j := fun j hj => ⟨by have := rc9.1; omega, fun i hi => rc9.2 i (by omega)⟩
          have n1 : xL hz 10 (a + 1) = oL (enc 32 (nS B n (a + 1))) := (rz.1.2.2.2.1 _ (rj _ (by omega))).2.2.1 z1
          have y2 : xL hz 10 (a + 2) = oL (vS B n (a + 2)) := (rz.1.2.2.2.1 _ (rj _ (by omega))).2.2.2 z2
          have y3 : xL hz 10 (a + 3) = oL (vS B n (a + 3)) := (rz.1.2.2.2.1 _ (rj _ (by omega))).2.2.2 z3
          have v2l : vS B n (a + 2) < 10000 := vS_lt z2
          have v3l : vS B n (a + 3) < 10000 := vS_lt z3
          have w2 := wcF_le (F := F) F.length
          have c13 := cl13_le (vS B n (a + 2))
          have w6 : xI hz it 6 = nI (wcF F F.length) := sz.1.2.2.1
          have w4 : xI hz it 4 = whB F 1 := sz.1.2.2.2.1
          have w5 : xI hz it 5 = whB F 2 := sz.1.2.2.2.2.1
          have w0 : xI hz it 0 = nI F.length := sz.1.2.1
          have mk := mkFact (x := faN B n a) hit rz sz g8 (nS_ok z1) v2l v3l
          have kz := k _ (tz.w.si.tr mk.2.2) mk.1 (fun _ _ => mk.2.1)
          have tf : tn (nI F.length) = F.length := tn_nI (by omega)
          have iF : InB (nI F.length) 8 := inb g8 (by decide)
          have q10 : xL (xsL hz 12 F.length (oL (enc 32 (nS B n (a + 1))))) 10 = xL hz 10 := xL_n (by decide)
          rw [tf, tn_nI (show a + 1 < 2 ^ 31 by omega), tn_nI (show a + 2 < 2 ^ 31 by omega), tn_nI (show a + 3 < 2 ^ 31 by omega), n1, q10, y2, cl13_L v2l]
          refine ⟨inb (by omega) (by decide), iF, inb (by omega) (by decide), iF, fun g5 e5' => ⟨inb (by omega) (by decide), iF, iF, fun g6 e6' => ⟨iF, ?_⟩⟩⟩
          have L5 : xL g5 10 = xL hz 10 := by rw [e5']; exact q10
          have I5 : ∀ c, c ≠ it + 1 → xI g5 c = xI hz c := fun c hc => by rw [e5', xI_n hc]; rfl
          have I51 : xI g5 (it + 1) F.length = nI (cl13 (vS B n (a + 2))) := by rw [e5']; exact xI_ss
          have r6 : xI (xsI g5 (it + 2) F.length (nI (vS B n (a + 3)))) it 6 = nI (wcF F F.length) := by rw [xI_n (by omega), I5 it (by omega)]; exact w6
          rw [L5, y3, oL_32 (by omega), r6] at e6'
          have I6 : ∀ c, c ≠ it + 1 → c ≠ it + 2 → c ≠ it + 3 → xI g6 c = xI hz c := fun c c1 c2 c3 => by rw [e6', xI_n c3, xI_n c2]; exact I5 c c1
          have I66 : xI g6 it 6 = nI (wcF F F.length) := by rw [I6 it (by omega) (by omega) (by omega)]; exact w6
          have I61 : xI g6 (it + 1) F.length = nI (cl13 (vS B n (a + 2))) := by rw [e6', xI_n (by omega), xI_n (by omega)]; exact I51
          have wn : wcF (F ++ [faN B n a]) (F.length + 1) = if wcF F F.length * (cl13 (vS B n (a + 2)) + 1) < 2000 then wcF F F.length * (cl13 (vS B n (a + 2)) + 1) else 2000 := by
            show (if wcF (F ++ [faN B n a]) F.length * (cl13 (faA (F ++ [faN B n a]) F.length).2.1 + 1) < 2000 then _ else _) = _
            rw [wcF_l _ (Nat.le_refl _), faA_r]
            rfl
          have I7 : ∀ x : Int32, xI (xsI g6 it 6 x) it 4 = whB F 1 := fun x => by rw [xI_sd (by decide), I6 it (by omega) (by omega) (by omega)]; exact w4
          rw [I66, I61, wc_I w2.2 c13.2, ← wn, I7]
          have fin : ∀ (x4 x5 : Int32), whB F 1 ||| x4 = whB (F ++ [faN B n a]) 1 → whB F 2 ||| x5 = whB (F ++ [faN B n a]) 2 → ∀ g7, g7 = xsI (xsI g6 it 6 (nI (wcF (F ++ [faN B n a]) (F.length + 1)))) it 4 (whB F 1 ||| x4) → K (xsI (xsI g7 it 5 ((xI g7 it 5) ||| x5)) it 0 ((xI (xsI g7 it 5 ((xI g7 it 5) ||| x5)) it 0) + 1)) := by
            intro x4 x5 ex4 ex5 g7 e7
            have J5 : xI g7 it 5 = whB F 2 := by rw [e7, xI_sd (by decide), xI_sd (by decide), I6 it (by omega) (by omega) (by omega)]; exact w5
            have J0 : ∀ x : Int32, xI (xsI g7 it 5 x) it 0 = nI F.length := fun x => by rw [xI_sd (by decide), e7, xI_sd (by decide), xI_sd (by decide), I6 it (by omega) (by omega) (by omega)]; exact w0
            rw [J0, J5, ex5, nI_1, e7, ex4, e6', e5']
            exact kz
          have who : ∀ w, (faN B n a).2.2.2 = w ↔ (if kS B n (a + 4) = 101 then 1 else if kS B n (a + 4) = 102 then 2 else 0) = w := fun w => Iff.rfl
          have b1 : whB (F ++ [faN B n a]) 1 = whB F 1 ||| (if kS B n (a + 4) = 101 then bt F.length else 0) := by
            rw [whB_s]
            by_cases q : kS B n (a + 4) = 101
            · rw [if_pos q, if_pos ((who 1).mpr (if_pos q))]
            · rw [if_neg q, if_neg (fun z => ?_)]
              have z := (who 1).mp z
              rw [if_neg q] at z
              split at z <;> cases z
          have b2 : whB (F ++ [faN B n a]) 2 = whB F 2 ||| (if kS B n (a + 4) = 102 then bt F.length else 0) := by
            rw [whB_s]
            by_cases q : kS B n (a + 4) = 102
            · rw [if_pos q, if_pos ((who 2).mpr (by rw [if_neg (by omega), if_pos q]))]
            · rw [if_neg q, if_neg (fun z => ?_)]
              have z := (who 2).mp z
              by_cases q1 : kS B n (a + 4) = 101
              · rw [if_pos q1] at z; cases z
              · rw [if_neg q1, if_neg q] at z; cases z
          refine ⟨fun z1' g7 e7 => ⟨fun z2' => ⟨rfl, ?_⟩, fun z2' => ⟨rfl, ?_⟩⟩, fun z1' g7 e7 => ⟨fun z2' => ⟨rfl, ?_⟩, fun z2' => ⟨rfl, ?_⟩⟩⟩
          · exact fin 0 0 (by rw [b1, if_neg (fun q => z1' ((e 101 (by decide)).mpr q))]) (by rw [b2, if_neg (fun q => z2' ((e 102 (by decide)).mpr q))]) g7 e7
          · exact fin 0 (bt F.length) (by rw [b1, if_neg (fun q => z1' ((e 101 (by decide)).mpr q))]) (by rw [b2, if_pos ((e 102 (by decide)).mp (Classical.not_not.mp z2'))]) g7 e7
          · exact fin (bt F.length) 0 (by rw [b1, if_pos ((e 101 (by decide)).mp (Classical.not_not.mp z1'))]) (by rw [b2, if_neg (fun q => z2' ((e 102 (by decide)).mpr q))]) g7 e7
          · exact fin (bt F.length) (bt F.length) (by rw [b1, if_pos ((e 101 (by decide)).mp (Classical.not_not.mp z1'))]) (by rw [b2, if_pos ((e 102 (by decide)).mp (Classical.not_not.mp z2'))]) g7 e7
      have l86 : (kS B n (a + 4) = 101 ∨ kS B n (a + 4) = 102) → Ev 24 86 [.ref 6, .int (nI F.length), .int (nI (a + 1)), .int (nI (a + 2)), .int (nI (a + 3)), .int (nI (kS B n (a + 4)))] [] h7 (fun r h1 => r = .null ∧ K h1) := by
        intro q
        rw [if_pos q] at e5
        refine B_24_86 r7.sh r7.i2 r7.r (c_takeM hB kl (by omega) r7 (fun h9 v9 f9 r9 => ⟨r9.sh, r9.r, l93 h9 (t7.tr f9) ?_ (fun c hc => ?_)⟩))
        · rw [e5]; exact r9
        · rw [e5] at hc
          obtain ⟨c1, c2, c3, c4, c5, c6, c7, c8⟩ := tk_ok hc
          cases c5
          subst c8
          show a + 4 ≤ a + 4 + 1
          omega
      refine ⟨inb (by omega) (by decide), fun z => l86 (Or.inl ((e 101 (by decide)).mp z)), fun z1' => ⟨fun z2' => ?_, fun z2' => l86 (Or.inr ((e 102 (by decide)).mp (Classical.not_not.mp z2')))⟩⟩
      rw [if_neg (fun q => q.elim (fun q => z1' ((e 101 (by decide)).mpr q)) (fun q => z2' ((e 102 (by decide)).mpr q)))] at e5
      exact l93 h7 t7 (by rw [e5]; exact r7) (fun c hc => by rw [e5] at hc; cases hc; exact Nat.le_refl _)
  · have g8 : ¬ F.length < 8 := fun q => z (nI_lt (b := 8) q (by decide))
    have ef : faS B n F G a (.ok (a, sf, cs, rs)) = .error (2, pS B n a) := by unfold faS; rw [if_neg g8]
    rw [ef] at k
    exact c_blame (x := 2) (by decide) r (fun h1 f1 r1 => ⟨r1.sh, r1.r, rfl, k h1 f1.w.si r1 (fun c hc => by cases hc)⟩)
end CFB

/-! READING: a page, a fact of the one side -/
section PG2
variable (B : Nat → Nat) (n : Nat)
/-- the page's name is told twice, perhaps -/
def pg3 (F : List Fa) (G : List Pg) (a : Nat) (m : Md) : Md := match m with
  | .error e => .error e
  | .ok c => if told (nS B n (a + 1)) F G = true then sftS (pS B n) 3 (a + 1) (.ok c) else .ok c
def pg4 (F : List Fa) (G : List Pg) (a : Nat) (m : Md) : Md := shS (kS B n) (pS B n) (pg3 B n F G a (tkS (kS B n) (pS B n) 2 (tkS (kS B n) (pS B n) 104 m)))
def pg6 (F : List Fa) (G : List Pg) (a : Nat) (m : Md) : Md × List Cm := cmL (kS B n) (pS B n) (vS B n) G.length 6 (cmS (kS B n) (pS B n) (vS B n) G.length (pg4 B n F G a m)) [cmB (kS B n) (pS B n) (vS B n) G.length (pg4 B n F G a m)]
def pgS (F : List Fa) (G : List Pg) (a : Nat) (m : Md) : Md := if G.length < 6 then tkS (kS B n) (pS B n) 59 (pg6 B n F G a m).1 else .error (2, pS B n a)
def pgN (F : List Fa) (G : List Pg) (a : Nat) (m : Md) : Pg := (nS B n (a + 1), shO (kS B n (a + 2)), (pg6 B n F G a m).2)
end PG2
section CP2
variable {it : Nat} {B : Nat → Nat} {n : Nat} {h h0 : XH} {m : Md} {Q : Value → XH → Prop} {F : List Fa} {G : List Pg} {LW : List Lw} {BR : List Br} {sl sd pg : Nat}
theorem mkPage {nm : List Nat} {sh : Nat} (hit : it = 14 ∨ it = 24) (s : sR it (F, G, LW, BR, sl, sd, G.length) h) (hg : G.length < 6) (hn : okN nm ∧ nm.length ≤ 8) (hsh : sh ≤ 2) : sR it (F, G ++ [(nm, sh, [])], LW, BR, sl, sd, G.length) (xsI (xsI (xsL h 13 G.length (oL (enc 32 nm))) it 1 (nI (G.length + 1))) (it + 5) G.length (nI sh)) := by
  obtain ⟨s1, s2, s3, s4⟩ := s
  obtain ⟨g1, g2, g3, g4⟩ := s2
  have ot : ∀ c, c ≠ it → c ≠ it + 5 → xI (xsI (xsI (xsL h 13 G.length (oL (enc 32 nm))) it 1 (nI (G.length + 1))) (it + 5) G.length (nI sh)) c = xI h c := fun c h1 h2 => by rw [xI_n h2, xI_n h1]; rfl
  have o0 : ∀ j, j ≠ 1 → xI (xsI (xsI (xsL h 13 G.length (oL (enc 32 nm))) it 1 (nI (G.length + 1))) (it + 5) G.length (nI sh)) it j = xI h it j := fun j hj => by rw [xI_n (by omega), xI_sd hj]; rfl
  have c5 : xI (xsI (xsI (xsL h 13 G.length (oL (enc 32 nm))) it 1 (nI (G.length + 1))) (it + 5) G.length (nI sh)) (it + 5) = up (xI h (it + 5)) G.length (nI sh) := by rw [xI_s, xI_n (by omega)]; rfl
  have c1 : xI (xsI (xsI (xsL h 13 G.length (oL (enc 32 nm))) it 1 (nI (G.length + 1))) (it + 5) G.length (nI sh)) it 1 = nI (G.length + 1) := by rw [xI_n (by omega)]; exact xI_ss
  have l13 : xL (xsI (xsI (xsL h 13 G.length (oL (enc 32 nm))) it 1 (nI (G.length + 1))) (it + 5) G.length (nI sh)) 13 = up (xL h 13) G.length (oL (enc 32 nm)) := xL_s
  have l12 : xL (xsI (xsI (xsL h 13 G.length (oL (enc 32 nm))) it 1 (nI (G.length + 1))) (it + 5) G.length (nI sh)) 12 = xL h 12 := xL_n (by decide)
  generalize xsI (xsI (xsL h 13 G.length (oL (enc 32 nm))) it 1 (nI (G.length + 1))) (it + 5) G.length (nI sh) = h1 at *
  refine ⟨?_, ?_, ?_, ?_⟩
  · unfold fR
    rw [o0 0 (by decide), o0 6 (by decide), o0 4 (by decide), o0 5 (by decide), ot (it + 1) (by omega) (by omega), ot (it + 2) (by omega) (by omega), ot (it + 3) (by omega) (by omega), l12]
    exact s1
  · unfold gR
    show (G ++ [_]).length ≤ 6 ∧ _
    rw [ap1, c1, c5, ot (it + 6) (by omega) (by omega), ot (it + 8) (by omega) (by omega), l13]
    refine ⟨by omega, rfl, fun p h1 h2 => g3 p (by show G.length ≤ p; omega) h2, fun p hp => ?_⟩
    by_cases q : p = G.length
    · subst q
      rw [show pgA (F, G ++ [(nm, sh, ([] : List Cm))], LW, BR, sl, sd, G.length).2.1 G.length = (nm, sh, []) from pgA_r, up_same, up_same]
      exact ⟨rfl, hsh, g3 G.length (Nat.le_refl _) hg, Nat.zero_le 6, rfl, hn.1, hn.2, fun c hc => absurd hc (by simp)⟩
    · rw [show pgA (F, G ++ [(nm, sh, ([] : List Cm))], LW, BR, sl, sd, G.length).2.1 p = pgA G p from pgA_l (by omega), up_ne q, up_ne q]
      exact g4 p (by show p < G.length; omega)
  · unfold lR
    rw [ot (it + 4) (by omega) (by omega)]
    exact s3
  · unfold oR
    rw [o0 2 (by decide), o0 3 (by decide), o0 8 (by decide), ot 6 (by omega) (by omega), ot (it + 7) (by omega) (by omega)]
    exact s4
theorem shO_le (k : Nat) : shO k ≤ 2 := by unfold shO; split <;> (try split) <;> omega
theorem c_page2 {a : Nat} {sf : Option (Nat × Nat)} {cs rs : List Cd} {K : XH → Prop} (hB : ∀ i, B i < 256) (r : RC it B n (.ok (a, sf, cs, rs)) h) (s : sR it (F, G, LW, BR, sl, sd, pg) h)
    (k : ∀ h1, LI it h h1 → RC it B n (pgS B n F G a (.ok (a, sf, cs, rs))) h1 → (∀ c, pgS B n F G a (.ok (a, sf, cs, rs)) = .ok c → sR it (F, G ++ [pgN B n F G a (.ok (a, sf, cs, rs))], LW, BR, sl, sd, G.length) h1) → K h1) : ClV 40 [.ref 6] h K := by
  have hit := r.i2
  have g1 : G.length ≤ 6 := s.2.1.1
  have g2 : xI h it 1 = nI G.length := s.2.1.2.1
  have f0 : LI it h (xsI h 6 6 (nI G.length)) := ⟨Fx.lx (Fx.rf.set (by simp)), fun _ w => ⟨⟨G.length, g1, xI_ss⟩, fun f hf => by rw [xI_n (by omega)]; exact w.2 f hf⟩⟩
  have r0 : RC it B n (.ok (a, sf, cs, rs)) (xsI h 6 6 (nI G.length)) := r.fr (f0.sh r.sh (by simp; omega)) rfl (xI_n (by decide)) (xI_n (by decide)) rfl (fun j hj => xI_sd (by intro e; subst e; revert hj; decide)) (by rw [xI_n (by omega)]) (xI_n (by omega))
  have s0 : sR it (F, G, LW, BR, sl, sd, G.length) (xsI h 6 6 (nI G.length)) := by
    obtain ⟨s1, s2, s3, s4⟩ := s
    refine ⟨?_, ?_, ?_, ?_⟩
    · unfold fR
      rw [xI_n (by omega), xI_n (by omega), xI_n (by omega), xI_n (by omega)]
      exact s1
    · unfold gR
      rw [xI_n (by omega), xI_n (by omega), xI_n (by omega), xI_n (by omega)]
      exact s2
    · unfold lR
      rw [xI_n (by omega)]
      exact s3
    · obtain ⟨o1, o2, o3, o4, o5, o6, o7, o8⟩ := s4
      exact ⟨by rw [xI_n (by omega)]; exact o1, o2, by rw [xI_n (by omega)]; exact o3, o4, xI_ss, g1, by rw [xI_n (by omega)]; exact o7, fun p hp => by rw [xI_n (by omega)]; exact o8 p hp⟩
  have x6 : xI (xsI h 6 6 (nI G.length)) 6 6 = nI G.length := xI_ss
  refine B_40_0 r.sh r.i2 r.r ?_
  rw [g2, x6]
  generalize xsI h 6 6 (nI G.length) = hz at f0 r0 s0 x6 ⊢
  refine ⟨fun z => ?_, fun z => ?_⟩
  · have g6 : G.length < 6 := (nI_ltI (b := 6) (by omega) (by decide)).mp z
    have ep : pgS B n F G a (.ok (a, sf, cs, rs)) = tkS (kS B n) (pS B n) 59 (pg6 B n F G a (.ok (a, sf, cs, rs))).1 := by unfold pgS; rw [if_pos g6]
    rw [ep] at k
    refine c_takeM hB (by decide) (by decide) r0 (fun h1 v1 f1 r1 => ⟨r1.sh, r1.r, c_take hB (by decide) (by decide) r1 (fun h3 c ec f3 r3 => ⟨r3.sh, r3.r, fun z => absurd z (by decide), fun _ => ?_⟩) (fun h3 e ec f3 r3 => ⟨r3.sh, r3.r, fun _ => ?_, fun z => absurd rfl z⟩)⟩)
    · have t3 : EX it hz h3 := f1.tr f3
      obtain ⟨a1, sf1, cs1, rs1, q1, z1, l1, w1⟩ := tk_ok ec
      obtain ⟨a0, sf0, cs0, rs0, q0, z0, l0, w0⟩ := tk_ok q1
      cases q0
      cases w0
      subst w1
      have e5 : xI h1 6 5 = nI (a + 1) := by
        rw [q1] at r1
        exact r1.2.2.2.1
      rw [ec] at r3
      have rc1 : rch B n (a + 1) := ⟨by omega, fun i hi => r3.2.2.2.2.1.2 i (by omega)⟩
      have n10 : xL h3 10 (a + 1) = oL (enc 32 (nS B n (a + 1))) := (r3.1.2.2.2.1 (a + 1) rc1).2.2.1 z1
      have s3 := s0.ew hit t3.w
      rw [e5, tn_nI (show a + 1 < 2 ^ 31 by omega), n10]
      have go : ∀ (m3 : Md) (h5 : XH), pg3 B n F G a (tkS (kS B n) (pS B n) 2 (tkS (kS B n) (pS B n) 104 (.ok (a, sf, cs, rs)))) = m3 → (∃ sf', m3 = .ok (a + 1 + 1, sf', cs, rs)) → EX it hz h5 → RC it B n m3 h5 → sR it (F, G, LW, BR, sl, sd, G.length) h5 → Ev 40 65 [.ref 6, .int (nI (a + 1)), .null] [] h5 (fun r h1 => r = .null ∧ K h1) := by
        intro m3 h5 em hex t5 r5 s5
        obtain ⟨sf', rfl⟩ := hex
        have rc5 := r5.2.2.2.2.1
        have n5 : xL h5 10 (a + 1) = oL (enc 32 (nS B n (a + 1))) := (r5.1.2.2.2.1 (a + 1) rc1).2.2.1 z1
        have e66 : xI h5 6 6 = nI G.length := s5.2.2.2.pg6.1
        have i1 : xI (xsL h5 13 G.length (oL (enc 32 (nS B n (a + 1))))) it 1 = nI G.length := s5.2.1.2.1
        refine B_40_65 r5.sh r5.i2 r5.r ?_
        rw [e66, tn_nI (show G.length < 2 ^ 31 by omega), tn_nI (show a + 1 < 2 ^ 31 by omega), n5, i1, nI_1]
        refine ⟨inb (by omega) (by decide), inb (by omega) (by decide), ?_⟩
        have f6 : LI it h5 (xsI (xsL h5 13 G.length (oL (enc 32 (nS B n (a + 1))))) it 1 (nI (G.length + 1))) := ⟨(Lx.rf.setL (by simp)).set (by simp), fun _ w => w.c (by rw [xI_n (by omega)]; rfl) (by rw [xI_n (by omega)]; rfl)⟩
        have r6 : RC it B n (.ok (a + 1 + 1, sf', cs, rs)) (xsI (xsL h5 13 G.length (oL (enc 32 (nS B n (a + 1))))) it 1 (nI (G.length + 1))) := r5.fr (f6.sh r5.sh (by simp; omega)) rfl (by rw [xI_n (by omega)]; rfl) (by rw [xI_n (by omega)]; rfl) (xL_n (by decide)) (fun j hj => by rw [xI_n (by omega)]; rfl) (by rw [xI_sd (by decide)]; rfl) (by rw [xI_n (by omega)]; rfl)
        have e67 : xI (xsI (xsL h5 13 G.length (oL (enc 32 (nS B n (a + 1))))) it 1 (nI (G.length + 1))) 6 6 = nI G.length := by rw [xI_n (by omega)]; exact e66
        have s7 := mkPage (sh := shO (kS B n (a + 1 + 1))) hit s5 g6 (nS_ok z1) (shO_le _)
        generalize xsI (xsL h5 13 G.length (oL (enc 32 (nS B n (a + 1))))) it 1 (nI (G.length + 1)) = h6 at f6 r6 e67 s7 ⊢
        refine B_40_93 r6.sh r6.i2 r6.r (c_shade2 hB r6 e67 g6 (fun h7 f7 r7 => ⟨r7.sh, r7.r, ?_⟩))
        have s8 := s7.ew hit f7.w
        have fxx : LI it h h7 := ((f0.tr t5.w.si).tr f6).tr ((LI.rf.set (by simp) (by omega) (by omega)).tr f7.w.si)
        have e4 : pg4 B n F G a (.ok (a, sf, cs, rs)) = shS (kS B n) (pS B n) (.ok (a + 1 + 1, sf', cs, rs)) := by unfold pg4; rw [em]
        rw [← e4] at r7
        match hm : pg4 B n F G a (.ok (a, sf, cs, rs)) with
        | .error e =>
          rw [hm] at r7
          refine c_claimE r7 ⟨r7.sh, r7.r, l_p103e r7 ⟨rfl, ?_⟩⟩
          have e6 : pg6 B n F G a (.ok (a, sf, cs, rs)) = (.error e, (pg6 B n F G a (.ok (a, sf, cs, rs))).2) := by
            unfold pg6
            rw [hm]
            rfl
          have e7 : tkS (kS B n) (pS B n) 59 (pg6 B n F G a (.ok (a, sf, cs, rs))).1 = .error e := by rw [e6]; rfl
          exact k h7 fxx (by rw [e7]; exact r7) (fun c hc => by rw [e7] at hc; cases hc)
        | .ok (a4, sf4, cs4, rs4) =>
          rw [hm] at r7
          refine c_claim2 (cls := []) hB r7 s8 (by decide) (fun h8 f8 r8 e8 s9 => ⟨r8.sh, r8.r, ?_⟩)
          refine l_more (h0 := h) (M := pg6 B n F G a (.ok (a, sf, cs, rs))) hB (fun h9 f9 r9 s10 => ⟨rfl, k h9 f9 r9 (fun c hc => s10 c hc)⟩) 6 _ _ h8 (fxx.tr f8) rfl r8 s9 (Nat.le_refl 1) ?_
          unfold pg6
          rw [hm]
          rfl
      refine ⟨inb (by omega) (by decide), c_tldC r3.1 s3.1 s3.2.1 (nS_ok z1) (fun ht => ⟨r3.sh, r3.r, fun z => absurd z (by decide), fun _ => ?_⟩) (fun ht => ⟨r3.sh, r3.r, fun _ => ?_, fun z => absurd rfl z⟩)⟩
      · have em : pg3 B n F G a (tkS (kS B n) (pS B n) 2 (tkS (kS B n) (pS B n) 104 (.ok (a, sf, cs, rs)))) = sftS (pS B n) 3 (a + 1) (.ok (a + 1 + 1, sf, cs, rs)) := by
          unfold pg3
          rw [ec]
          exact if_pos ht
        refine c_soft (x := 3) (by decide) (by omega) (fun _ _ => rc1) r3 (fun h5 f5 r5 => ⟨r5.sh, r5.r, ?_⟩)
        exact go _ h5 em ⟨_, rfl⟩ (t3.tr f5) r5 (s3.ew hit f5.w)
      · have em : pg3 B n F G a (tkS (kS B n) (pS B n) 2 (tkS (kS B n) (pS B n) 104 (.ok (a, sf, cs, rs)))) = .ok (a + 1 + 1, sf, cs, rs) := by
          unfold pg3
          rw [ec]
          exact if_neg (by rw [ht]; decide)
        exact go _ h3 em ⟨_, rfl⟩ t3 r3 s3
    · have t3 : EX it hz h3 := f1.tr f3
      rw [ec] at r3
      have em : pg4 B n F G a (.ok (a, sf, cs, rs)) = .error e := by
        unfold pg4 pg3
        rw [ec]
        rfl
      have e6 : (pg6 B n F G a (.ok (a, sf, cs, rs))).1 = .error e := by
        unfold pg6
        rw [em]
        rfl
      have e7 : tkS (kS B n) (pS B n) 59 (pg6 B n F G a (.ok (a, sf, cs, rs))).1 = .error e := by rw [e6]; rfl
      exact l_p93e (pg := G.length) r3 (by rw [t3.2.1 6 (by decide)]; exact x6) g6 (fun h4 f4 r4 => ⟨rfl, k h4 ((f0.tr t3.w.si).tr f4) (by rw [e7]; exact r4) (fun c hc => by rw [e7] at hc; cases hc)⟩)
  · have g6 : ¬ G.length < 6 := fun q => z (nI_lt (b := 6) q (by decide))
    have ep : pgS B n F G a (.ok (a, sf, cs, rs)) = .error (2, pS B n a) := by unfold pgS; rw [if_neg g6]
    rw [ep] at k
    exact c_blame (x := 2) (by decide) r0 (fun h1 f1 r1 => ⟨r1.sh, r1.r, rfl, k h1 (f0.tr f1.w.si) r1 (fun c hc => by cases hc)⟩)
end CP2

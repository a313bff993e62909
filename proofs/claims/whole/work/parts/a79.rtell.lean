/-! READING: the other side tells the whole text -/
section RTL
variable {s o : Nat} {B : Nat → Nat} {n : Nat} {h h0 h1 h2 : XH} {m : Md} {a a' : Nat} {sf sf' : Option (Nat × Nat)} {cs rs : List Cd} {Q : Value → XH → Prop} {NM : List (List Nat × Nat)} {nm : List Nat} {F : List Fa} {G : List Pg} {LW : List Lw} {BR : List Br} {sl sd pg : Nat} {st : St}
/-- a number told: slips or seed -/
theorem l_bndR {c hi : Nat} (hc : c = 92 ∨ c = 93) (hhi : hi < 10000) (r : RR s 0 B n (.ok (a, sf, cs, rs)) h) (ka : 2 ≤ kS B n a)
    (kk : ∀ h1, Rx (c :: SE) [] FE h h1 → othS s h h1 → RR s 0 B n (sfM (if vS B n (a + 1) < 0 ∨ hi < vS B n (a + 1) then sfO sf (some (5, pS B n (a + 1))) else sf) (tkS (kS B n) (pS B n) 59 (tkS (kS B n) (pS B n) 3 (tkS (kS B n) (pS B n) (kS B n a) (.ok (a, sf, cs, rs)))))) h1 → (∀ co, tkS (kS B n) (pS B n) 59 (tkS (kS B n) (pS B n) 3 (tkS (kS B n) (pS B n) (kS B n a) (.ok (a, sf, cs, rs)))) = .ok co → xI h1 c = up (xI h c) s (nI (vS B n (a + 1)))) → Q .null h1) :
    ClV 190 [.ref 69] h (fun h17 => Sh h17 ∧ (ClI 193 [.ref 69, .int 0, .int (nI hi)] h17 (fun v20 h19 => Sh h19 ∧ (InB (xI h17 69 19) 2 ∧ (ClV 191 [.ref 69, .int 4] (xsI h19 c (tn (xI h17 69 19)) v20) (fun h21 => Sh h21 ∧ (Ev 186 295 [.null, .null, .null, .null] [] h21 Q))))))) := by
  have s2 : s < 2 := r.1.2.1
  have rl : rs.length ≤ a := r.2.2.2.2.2.2.1
  have e1 : tkS (kS B n) (pS B n) (kS B n a) (.ok (a, sf, cs, rs)) = gnS (pS B n) (.ok (a, sf, cs, rs)) := if_pos rfl
  have eg : gnS (pS B n) (.ok (a, sf, cs, rs)) = if a < 400 then .ok (a + 1, sf, cs, rs) else .error (2, pS B n a) := rfl
  rw [e1] at kk
  refine c_goesOn r (fun a' sf' cs' rs' e => by cases e; exact ⟨ka, by omega⟩) (fun h3 g3 r3 _ _ => ⟨r3.sh, c_boundM (lo := 0) (hi := hi) (by decide) hhi r3 (fun v h5 g5 r5 hv => ⟨r5.sh, ?_⟩)⟩)
  have e19 : xI h3 69 19 = nI s := r3.1.2.2.1
  rw [e19, tn_nI (show s < 2 ^ 31 by omega)]
  have gw : Gs s [c] [] h5 (xsI h5 c s v) := by
    have w1 : wd c = 1 := by rcases hc with q | q <;> subst q <;> rfl
    refine Gs.rf.set List.mem_cons_self (by omega) (Or.inr ?_)
    rw [w1]
    omega
  have W : xI (xsI h5 c s v) c = up (xI h5 c) s v := xI_s
  have c1 : c ∉ SE := by rcases hc with q | q <;> subst q <;> decide
  have c2 : ∀ x ∈ NS1, x ∉ [c] := by rcases hc with q | q <;> subst q <;> decide
  have c3 : c ∈ SAl := by rcases hc with q | q <;> subst q <;> decide
  generalize xsI h5 c s v = hw at gw W ⊢
  have rw' := r5.gx gw c2 (by decide)
  refine ⟨inb s2 (by decide), c_must (x := 59) (by decide) (by decide) rw' (fun h7 g7 r7 => ⟨r7.sh, B_186_295 r7.sh ?_⟩)⟩
  have X7 : Rx (c :: SE) [] FE h h7 := ((((g3.tr g5).gx.rx (L := [])).mono (fun x hx => List.mem_cons_of_mem _ hx) (by decide) (by decide)).tr ((gw.gx.rx (L := [])).mono (fun x hx => by rw [List.mem_singleton.mp hx]; exact List.mem_cons_self) (by decide) (by decide))).tr ((g7.gx.rx (L := [])).mono (fun x hx => List.mem_cons_of_mem _ hx) (by decide) (by decide))
  have O7 : othS s h h7 := (((g3.2.2.tr g5.2.2).tr gw.2.2).tr g7.2.2)
  have e7 : xI h7 c = up (xI h c) s v := by rw [g7.at c1 (by omega), W, g5.at c1 (by omega), g3.at c1 (by omega)]
  by_cases a4 : a < 400
  · rw [eg, if_pos a4] at kk r7 hv
    have eb : bdS B n 0 hi (.ok (a + 1, sf, cs, rs)) = sfM (if vS B n (a + 1) < 0 ∨ hi < vS B n (a + 1) then sfO sf (some (5, pS B n (a + 1))) else sf) (tkS (kS B n) (pS B n) 3 (.ok (a + 1, sf, cs, rs))) := bd_eq (m := .ok (a + 1, sf, cs, rs)) (S := sf)
    rw [eb] at r7 hv
    rw [tk_sfM] at r7
    refine kk h7 X7 O7 r7 (fun co hco => ?_)
    obtain ⟨c0, ec0, _⟩ := tk_at hco
    rw [ec0] at hv
    rw [e7, hv _ rfl]
    rfl
  · rw [eg, if_neg a4] at kk r7
    exact kk h7 X7 O7 r7 (fun co hco => by cases hco)
theorem c_tellR {K : XH → Prop} (r : RR s 0 B n (.ok (a, sf, cs, rs)) h) (x : rST s a sf (F, G, LW, BR, sl, sd, pg) h) (hd : sf = none → dF F) (k : ∀ h1, Rs s h h1 → tS s B n (stS B n ((a, sf, cs, rs), (F, G, LW, BR, sl, sd, pg))) h1 → K h1) : ClV 186 [.ref 69] h K := by
  have s2 : s < 2 := r.1.2.1
  have gz : Gs s [] [42] h (xsI h 69 42 0) := Gs.rf.fld (by decide)
  have z42 : xI (xsI h 69 42 0) 69 42 = 0 := xI_ss
  refine B_186_0 r.sh ?_
  generalize xsI h 69 42 0 = hz at gz z42 ⊢
  have rz := r.gx gz (by decide) (by decide)
  have xz : rST s a sf (F, G, LW, BR, sl, sd, pg) hz := x.rx (L := []) gz.gx.rx (by decide) (by decide) (by decide) (Nat.le_refl _) id
  have Rz : Rs s h hz := gz.rS (by decide) (by decide)
  have k : ∀ h1, Rs s hz h1 → tS s B n (stS B n ((a, sf, cs, rs), (F, G, LW, BR, sl, sd, pg))) h1 → K h1 := fun h1 g t => k h1 (Rz.tr g) t
  have rl : rs.length ≤ a := r.2.2.2.2.2.2.1
  have a4 : a ≤ 400 := r.2.2.2.1.1
  have k9 := rz.k
  have e11 : xI hz 69 11 = nI a := rz.2.2.1
  have e19 : xI hz 69 19 = nI s := rz.1.2.2.1
  have ko := kS_ok (B := B) (n := n) a
  have kl := rkd_lt (kS B n a) ko.2
  have e : ∀ y, y < 116 → okK y = true → (nI (rkd (kS B n a)) = nI (rkd y) ↔ kS B n a = y) := fun y hy hk => ⟨fun q => rkd_i _ ko.2 _ hy ko.1 hk ((nI_eq (by omega) (by have := rkd_lt y hy; omega)).mp q), fun q => by rw [q]⟩
  have es : stS B n ((a, sf, cs, rs), (F, G, LW, BR, sl, sd, pg)) = if kS B n a = 100 then lift (faS B n F G a (.ok (a, sf, cs, rs))) (F ++ [faN B n a], G, LW, BR, sl, sd, pg)
      else if kS B n a = 103 then lift (goS B n F pg a (.ok (a, sf, cs, rs))) (F, G, goL B n F LW BR.length (BR ++ goB B n F pg a (.ok (a, sf, cs, rs))).length a cs.length, BR ++ goB B n F pg a (.ok (a, sf, cs, rs)), sl, sd, pg)
      else if kS B n a = 104 then lift (pgS B n F G a (.ok (a, sf, cs, rs))) (F, G ++ [pgN B n F G a (.ok (a, sf, cs, rs))], LW, BR, sl, sd, G.length)
      else if kS B n a = 109 then lift (slS (pS B n) (vS B n) a (tkS (kS B n) (pS B n) 59 (tkS (kS B n) (pS B n) 3 (tkS (kS B n) (pS B n) 109 (.ok (a, sf, cs, rs)))))) (F, G, LW, BR, vS B n (a + 1), sd, pg)
      else if kS B n a = 110 then lift (tkS (kS B n) (pS B n) 59 (tkS (kS B n) (pS B n) 3 (tkS (kS B n) (pS B n) 110 (.ok (a, sf, cs, rs))))) (F, G, LW, BR, sl, vS B n (a + 1), pg)
      else .error (1, pS B n a) := rfl
  have F8 : F.length ≤ 8 := xz.2.1.1
  have G6 : G.length ≤ 6 := xz.2.2.2.1.1
  have e79 : xI hz 79 s = nI F.length := xz.2.1.2.1
  have e84 : xI hz 84 s = nI G.length := xz.2.2.2.1.2.1
  have bad : kS B n a ≠ 100 → kS B n a ≠ 103 → kS B n a ≠ 104 → kS B n a ≠ 109 → kS B n a ≠ 110 → ClV 187 [.ref 69, .int 1] hz (fun h3 => Sh h3 ∧ (Ev 186 295 [.null, .null, .null, .null] [] h3 (fun r h1 => r = .null ∧ K h1))) := by
    intro k100 k103 k104 k109 k110
    rw [if_neg k100, if_neg k103, if_neg k104, if_neg k109, if_neg k110] at es
    rw [es] at k
    exact c_fail (x := 1) (by decide) rz (fun c hc => by cases hc; show rs.length ≤ 402; omega) (fun h3 g3 r3 _ _ => ⟨r3.sh, B_186_295 r3.sh ⟨rfl, k h3 (gsE g3) r3⟩⟩)
  have is20 : nI (rkd (kS B n a)) = 20 ↔ kS B n a = 100 := e 100 (by decide) (by decide)
  have is21 : nI (rkd (kS B n a)) = 21 ↔ kS B n a = 103 := e 103 (by decide) (by decide)
  have is22 : nI (rkd (kS B n a)) = 22 ↔ kS B n a = 104 := e 104 (by decide) (by decide)
  have is23 : nI (rkd (kS B n a)) = 23 ↔ kS B n a = 105 := e 105 (by decide) (by decide)
  have is24 : nI (rkd (kS B n a)) = 24 ↔ kS B n a = 106 := e 106 (by decide) (by decide)
  have is25 : nI (rkd (kS B n a)) = 25 ↔ kS B n a = 107 := e 107 (by decide) (by decide)
  have is26 : nI (rkd (kS B n a)) = 26 ↔ kS B n a = 108 := e 108 (by decide) (by decide)
  have is27 : nI (rkd (kS B n a)) = 27 ↔ kS B n a = 109 := e 109 (by decide) (by decide)
  have is28 : nI (rkd (kS B n a)) = 28 ↔ kS B n a = 110 := e 110 (by decide) (by decide)
  rw [e11, e19, tn_nI (show a < 2 ^ 31 by omega), tn_nI (show s < 2 ^ 31 by omega), k9.1, e79, e84]
  rw [is20, is21, is22, is23, is24, is25, is26, is27, is28]
  refine ⟨inb (by omega) (by decide), fun z => ⟨inb s2 (by decide), fun y => ?_, fun y => ?_⟩, fun z20 => ⟨fun z => ?_, fun z21 => ⟨fun z => ⟨inb s2 (by decide), fun y => ?_, fun y => ?_⟩, fun z22 => ⟨fun z => bad ?_ ?_ ?_ ?_ ?_, fun z23 => ⟨fun z => bad ?_ ?_ ?_ ?_ ?_, fun z24 => ⟨fun z => bad ?_ ?_ ?_ ?_ ?_, fun z25 => ⟨fun z => bad ?_ ?_ ?_ ?_ ?_, fun z26 => ⟨fun z => ?_, fun z27 => ⟨fun z => ?_, fun z28 => bad ?_ ?_ ?_ ?_ ?_⟩⟩⟩⟩⟩⟩⟩⟩⟩
  · have f8 : F.length < 8 := by
      have : F.length ≠ 8 := fun q => y (by rw [q]; rfl)
      omega
    rw [if_pos z] at es
    rw [es] at k
    refine B_186_83 rz.sh ⟨fun q => absurd rz.z q, fun _ => c_factR rz xz z f8 (fun h1 g1 t1 => ⟨?_, B_186_295 ?_ ⟨rfl, k h1 g1 t1⟩⟩)⟩
    · exact g1.1.sh rz.sh (by decide)
    · exact g1.1.sh rz.sh (by decide)
  · have f8 : F.length = 8 := (nI_eq (b := 8) (by omega) (by decide)).mp (Classical.not_not.mp y)
    have ef : faS B n F G a (.ok (a, sf, cs, rs)) = .error (2, pS B n a) := by unfold faS; rw [if_neg (by omega)]
    rw [if_pos z, ef] at es
    rw [es] at k
    refine c_fail (x := 2) (by decide) rz (fun c hc => by cases hc; show rs.length ≤ 402; omega) (fun h3 g3 r3 _ _ => ⟨r3.sh, ?_⟩)
    have r3 : RR s 0 B n (.error (2, pS B n a)) h3 := r3
    exact B_186_83 r3.sh ⟨fun _ => B_186_295 r3.sh ⟨rfl, k h3 (gsE g3) r3⟩, fun q => absurd r3.ne.1 q⟩
  · rw [if_neg z20, if_pos z] at es
    rw [es] at k
    exact l_goesR xz rz hd z (fun h1 g1 t1 => ⟨rfl, k h1 g1 t1⟩)
  · have g6 : G.length < 6 := by
      have : G.length ≠ 6 := fun q => y (by rw [q]; rfl)
      omega
    rw [if_neg z20, if_neg z21, if_pos z] at es
    rw [es] at k
    refine B_186_219 rz.sh ⟨fun q => absurd rz.z q, fun _ => c_pageR rz xz z g6 z42 (fun h1 g1 t1 => ⟨?_, B_186_295 ?_ ⟨rfl, k h1 g1 t1⟩⟩)⟩
    · exact g1.1.sh rz.sh (by decide)
    · exact g1.1.sh rz.sh (by decide)
  · have g6 : G.length = 6 := (nI_eq (b := 6) (by omega) (by decide)).mp (Classical.not_not.mp y)
    have ef : pgS B n F G a (.ok (a, sf, cs, rs)) = .error (2, pS B n a) := by unfold pgS; rw [if_neg (by omega)]
    rw [if_neg z20, if_neg z21, if_pos z, ef] at es
    rw [es] at k
    refine c_fail (x := 2) (by decide) rz (fun c hc => by cases hc; show rs.length ≤ 402; omega) (fun h3 g3 r3 _ _ => ⟨r3.sh, ?_⟩)
    have r3 : RR s 0 B n (.error (2, pS B n a)) h3 := r3
    exact B_186_219 r3.sh ⟨fun _ => B_186_295 r3.sh ⟨rfl, k h3 (gsE g3) r3⟩, fun q => absurd r3.ne.1 q⟩
  case _ => omega
  case _ => omega
  case _ => omega
  case _ => omega
  case _ => omega
  case _ => omega
  case _ => omega
  case _ => omega
  case _ => omega
  case _ => omega
  case _ => omega
  case _ => omega
  case _ => omega
  case _ => omega
  case _ => omega
  case _ => omega
  case _ => omega
  case _ => omega
  case _ => omega
  case _ => omega
  · rw [if_neg z20, if_neg z21, if_neg z22, if_pos z] at es
    rw [es] at k
    refine l_bndR (c := 92) (hi := 100) (Or.inl rfl) (by decide) rz (by omega) (fun h1 g1 o1 r1 t1 => ⟨rfl, k h1 (g1.rS o1 (by decide) (by decide) (by decide)) ?_⟩)
    rw [z] at r1 t1
    match hm : tkS (kS B n) (pS B n) 59 (tkS (kS B n) (pS B n) 3 (tkS (kS B n) (pS B n) 109 (.ok (a, sf, cs, rs)))) with
    | .error er =>
      rw [hm] at r1
      have : slS (pS B n) (vS B n) a (.error er) = .error er := by unfold slS; split <;> rfl
      rw [this]
      exact r1
    | .ok co =>
      rw [hm] at r1 t1
      obtain ⟨y1, y2, y3, y4, y5, y6, y7, y8⟩ := tk_ok hm
      obtain ⟨w1, w2, w3, w4, w5, w6, w7, w8⟩ := tk_ok y5
      obtain ⟨v1, v2, v3, v4, v5, v6, v7, v8⟩ := tk_ok w5
      cases v5
      cases v8
      cases w8
      subst y8
      have e9 := t1 _ rfl
      obtain ⟨⟨NM, R, N⟩, x2, x3, x4, x5, x6, x7⟩ := xz
      have fin : ∀ S : Option (Nat × Nat), (S = none → sf = none) → RR s 0 B n (.ok (a + 3, S, cs, rs)) h1 → tS s B n (.ok ((a + 3, S, cs, rs), (F, G, LW, BR, vS B n (a + 1), sd, pg))) h1 := by
        intro S hS rS
        refine ⟨rS, ⟨NM, R, N.rx g1 (by decide) (by decide) (by decide)⟩, x2.rx g1 (by decide), x3.rx g1 (by decide) hS, x4.rx g1 (by decide) (by decide), x5.rx g1 (by decide) (by decide) (show a ≤ a + 3 by omega), fun q => (x6 (hS q)).rx g1 (by decide), ?_, ?_⟩
        · rw [e9, up_same]
        · rw [g1.at (by decide) (by decide)]; exact x7.2
      have e0 : slS (pS B n) (vS B n) a (.ok (a + 1 + 1 + 1, sf, cs, rs)) = .ok (a + 3, if vS B n (a + 1) < 0 ∨ 100 < vS B n (a + 1) then sfO sf (some (5, pS B n (a + 1))) else sf, cs, rs) := by
        unfold slS
        by_cases q : vS B n (a + 1) ≤ 100
        · rw [if_pos q, if_neg (by omega)]
        · rw [if_neg q, if_pos (by omega)]; rfl
      rw [e0]
      refine fin _ (fun q => ?_) r1
      split at q
      · exact sfO_n q
      · exact q
  · rw [if_neg z20, if_neg z21, if_neg z22, if_neg z27, if_pos z] at es
    rw [es] at k
    refine l_bndR (c := 93) (hi := 9999) (Or.inr rfl) (by decide) rz (by omega) (fun h1 g1 o1 r1 t1 => ⟨rfl, k h1 (g1.rS o1 (by decide) (by decide) (by decide)) ?_⟩)
    rw [z] at r1 t1
    match hm : tkS (kS B n) (pS B n) 59 (tkS (kS B n) (pS B n) 3 (tkS (kS B n) (pS B n) 110 (.ok (a, sf, cs, rs)))) with
    | .error er =>
      rw [hm] at r1
      exact r1
    | .ok co =>
      rw [hm] at r1 t1
      obtain ⟨y1, y2, y3, y4, y5, y6, y7, y8⟩ := tk_ok hm
      obtain ⟨w1, w2, w3, w4, w5, w6, w7, w8⟩ := tk_ok y5
      obtain ⟨v1, v2, v3, v4, v5, v6, v7, v8⟩ := tk_ok w5
      cases v5
      cases v8
      cases w8
      subst y8
      have e9 := t1 _ rfl
      have vl : vS B n (a + 1) < 10000 := vS_lt w6
      rw [if_neg (by omega)] at r1
      obtain ⟨⟨NM, R, N⟩, x2, x3, x4, x5, x6, x7⟩ := xz
      refine ⟨r1, ⟨NM, R, N.rx g1 (by decide) (by decide) (by decide)⟩, x2.rx g1 (by decide), x3.rx g1 (by decide) id, x4.rx g1 (by decide) (by decide), x5.rx g1 (by decide) (by decide) (show a ≤ a + 1 + 1 + 1 by omega), fun q => (x6 q).rx g1 (by decide), ?_, ?_⟩
      · rw [g1.at (by decide) (by decide)]; exact x7.1
      · rw [e9, up_same]
  all_goals assumption
end RTL

/-! READING: an expression of the other side -/
section RX2
variable {s o : Nat} {B : Nat → Nat} {n : Nat} {h h0 : XH} {m : Md} {a : Nat} {sf : Option (Nat × Nat)} {cs rs : List Cd} {Q : Value → XH → Prop}
theorem RR.wt {h1 : XH} (r : RR s o B n m h) (g : Gs s [105] [55] h h1) : RR s o B n m h1 := by
  have rb := r.1.gx (g.mono (by decide) (by decide))
  match m, r with
  | .error e, r =>
    obtain ⟨e1, e2, e3, e4, e5, ⟨b, e6, e7⟩, c, e8, e9⟩ := r.2
    exact ⟨rb, e1, e2, e3, by rw [g.f (by decide)]; exact e4, by rw [g.f (by decide)]; exact e5, ⟨b, e6, by rw [g.f (by decide)]; exact e7⟩, ⟨c, e8, by rw [g.f (by decide)]; exact e9⟩⟩
  | .ok (a, sf, cs, rs), r =>
    obtain ⟨q1, q2, q3, q4, q5, q6, q7, q8, q9, q10⟩ := r.2
    refine ⟨rb, by rw [g.f (by decide)]; exact q1, by rw [g.f (by decide)]; exact q2, q3, ?_, by rw [g.f (by decide)]; exact q5, q6, by rw [g.f (by decide)]; exact q7, fun i hi => by rw [g.at (by decide) (by decide), g.at (by decide) (by decide)]; exact q8 i hi, by rw [g.f (by decide)]; exact q9, fun i hi => by rw [g.at (by decide) (by decide), g.at (by decide) (by decide)]; exact q10 i hi⟩
    unfold sfP
    rw [g.f (by decide), g.f (by decide)]
    exact q4
theorem RR.op {o' : Nat} (r : RR s o B n m h) : RR s o' B n m (xsI h 69 12 (nI o')) := by
  have g : Gs s [] [12] h (xsI h 69 12 (nI o')) := Gs.rf.fld (by decide)
  have rb := r.1.gx (g.mono (by decide) (by decide))
  match m, r with
  | .error e, r =>
    obtain ⟨e1, e2, e3, e4, e5, ⟨b, e6, e7⟩, c, e8, e9⟩ := r.2
    exact ⟨rb, e1, e2, e3, by rw [g.f (by decide)]; exact e4, by rw [g.f (by decide)]; exact e5, ⟨b, e6, by rw [g.f (by decide)]; exact e7⟩, ⟨c, e8, by rw [g.f (by decide)]; exact e9⟩⟩
  | .ok (a, sf, cs, rs), r =>
    obtain ⟨q1, q2, q3, q4, q5, q6, q7, q8, q9, q10⟩ := r.2
    refine ⟨rb, by rw [g.f (by decide)]; exact q1, by rw [g.f (by decide)]; exact q2, q3, ?_, xI_ss, q6, by rw [g.f (by decide)]; exact q7, fun i hi => by rw [g.at (by decide) (by decide), g.at (by decide) (by decide)]; exact q8 i hi, by rw [g.f (by decide)]; exact q9, fun i hi => by rw [g.at (by decide) (by decide), g.at (by decide) (by decide)]; exact q10 i hi⟩
    unfold sfP
    rw [g.f (by decide), g.f (by decide)]
    exact q4
theorem c_unitE {e : Nat × Nat} {K : XH → Prop} (r : RR s o B n (.error e) h) (k : ∀ h1, Gs s SE FE h h1 → RR s o B n (.error e) h1 → K h1) : ClV 197 [.ref 69] h K := by
  refine B_197_0 r.sh (c_is (x := 3) (by decide) r ⟨r.sh, fun _ => c_is (x := 2) (by decide) r ⟨r.sh, fun _ => c_is (x := 114) (by decide) r ⟨r.sh, fun _ => c_is (x := 115) (by decide) r ⟨r.sh, fun _ => ?_, fun z => absurd rfl z⟩, fun z => absurd rfl z⟩, fun z => absurd rfl z⟩, fun z => absurd rfl z⟩)
  exact c_fail (x := 1) (by decide) r (fun c hc => by cases hc) (fun h1 g r1 _ _ => ⟨r1.sh, rfl, k h1 g r1⟩)
theorem l_23e {e : Nat × Nat} {x1 : Int32} (r : RR s o B n (.error e) h) (kk : ∀ h1, Gs s SE FE h h1 → RR s o B n (.error e) h1 → Q .null h1) : Ev 196 23 [.ref 69, .int x1, .null] [] h Q := by
  refine B_196_23 r.sh (c_is (x := 40) (by decide) r ⟨r.sh, fun _ => c_unitE r (fun h1 g r1 => ⟨r1.sh, fun z => absurd z r1.ne.2.1, fun _ => kk h1 g r1⟩), fun z => absurd rfl z⟩)
theorem WR.gx {ws : List Nat} {h1 : XH} (w : WR ws h) (e5 : xI h1 69 55 = xI h 69 55) (e105 : xI h1 105 = xI h 105) : WR ws h1 := ⟨w.1, e5.trans w.2.1, by rw [e105]; exact w.2.2.1, w.2.2.2⟩
/-- one more waits -/
theorem WR.push {ws : List Nat} {k : Nat} (w : WR ws h) (hl : ws.length < 40) (hk : wOp k) : WR (k :: ws) (xsI (xsI h 105 ws.length (nI (rkd k))) 69 55 (nI (ws.length + 1))) := by
  obtain ⟨w1, w2, w3, w4⟩ := w
  refine ⟨by show ws.length + 1 ≤ 40; omega, xI_ss, ?_, fun y hy => ?_⟩
  · rw [xI_n (by decide), xI_s]
    exact ⟨up_same, wlR_up (Nat.le_refl _) w3⟩
  · rcases List.mem_cons.mp hy with e | e
    · rw [e]; exact hk
    · exact w4 y e
/-- from codes that came out back to the state -/
theorem RR.come {rs' : List Cd} {h1 : XH} (r : RR s o B n (.ok (a, sf, cs, rs)) h) (g : Gs s [103, 104] [51, 55] h h1) (C : cdR s rs' h1) (hl : rs'.length ≤ a) (hrf : rfA 0 rs' = rfA 0 rs) (cs' : List Cd) : RR s o B n (.ok (a, sf, cs', rs')) h1 := by
  have rb := r.1.gx (g.mono (by decide) (by decide))
  obtain ⟨q1, q2, q3, q4, q5, q6, q7, q8, q9, q10⟩ := r.2
  refine ⟨rb, by rw [g.f (by decide)]; exact q1, by rw [g.f (by decide)]; exact q2, q3, ?_, by rw [g.f (by decide)]; exact q5, hl, C.1, C.2, by rw [g.f (by decide), hrf]; exact q9, fun i hi => ?_⟩
  · unfold sfP
    rw [g.f (by decide), g.f (by decide)]
    exact q4
  · rw [hrf] at hi ⊢
    rw [g.at (by decide) (by decide), g.at (by decide) (by decide)]
    exact q10 i hi
theorem opc_11 (w : Nat) : opc w ≠ 11 := by unfold opc; split <;> (try split) <;> (try split) <;> decide
theorem pop_rf {c : Nat} : ∀ ws cs rs, rfA 0 (pop c ws cs rs).2.2 = rfA 0 rs := by
  intro ws
  induction ws with
  | nil => intro cs rs; rfl
  | cons w t ih =>
    intro cs rs
    show rfA 0 (if c ≤ clo w then pop c t (apC cs (opc w, 0)) (rs ++ [(opc w, 0)]) else (w :: t, cs, rs)).2.2 = _
    split
    · rw [ih, rfA_s, if_neg (opc_11 w), List.append_nil]
    · rfl
/-- codes came out while there is a fault -/
theorem RR.comeE {e : Nat × Nat} {rs' : List Cd} {h1 : XH} (r : RR s o B n (.error e) h) (g : Gs s [103, 104] [51, 55] h h1) (C : cdR s rs' h1) (hl : rs'.length ≤ 402) : RR s o B n (.error e) h1 := by
  have rb := r.1.gx (g.mono (by decide) (by decide))
  obtain ⟨e1, e2, e3, e4, e5, ⟨b, e6, e7⟩, c, e8, e9⟩ := r.2
  exact ⟨rb, e1, e2, e3, by rw [g.f (by decide)]; exact e4, by rw [g.f (by decide)]; exact e5, ⟨b, e6, by rw [g.f (by decide)]; exact e7⟩, ⟨_, hl, C.1⟩⟩
theorem popW_le {c : Nat} : ∀ ws : List Nat, (popW c ws).length ≤ ws.length := by
  intro ws
  induction ws with
  | nil => exact Nat.le_refl _
  | cons w t ih =>
    show (if c ≤ clo w then popW c t else w :: t).length ≤ t.length + 1
    split
    · omega
    · exact Nat.le_refl _
theorem WI_pop1 {ne : Nat} {ws : List Nat} (I : WI ne ws) : ne ≤ (popW 1 ws).length := by
  cases ne with
  | zero => exact Nat.zero_le _
  | succ ne =>
    obtain ⟨r, e, I'⟩ := WI_close I
    have := (WI_len ne r I').2
    rw [e]
    show ne + 1 ≤ r.length + 1
    omega
theorem cdR.gx {h1 : XH} {S F : List Nat} (C : cdR s rs h) (g : Gs s S F h h1) (hF : 51 ∉ F) (hS : 103 ∉ S ∧ 104 ∉ S) : cdR s rs h1 := by
  unfold cdR
  rw [g.f hF, g.at hS.1 (by decide), g.at hS.2 (by decide)]
  exact C
/-- the rest of an expression once there is a fault behind a closing sign -/
theorem l_96e {e : Nat × Nat} {ne : Nat} {ws : List Nat} {x1 : Int32} (s2 : s < 2) (r : RR s o B n (.error e) h) (C : cdR s rs h) (W : WR ws h) (I : WI ne ws) (hl : rs.length + ws.length ≤ 402 + ne) (hn : ne ≤ 6) (kk : ∀ h1, Gs s SE FE h h1 → RR s o B n (.error e) h1 → Q .null h1) : Ev 196 96 [.ref 69, .int x1, .null] [] h Q := by
  have l1 := WI_pop1 I
  have pl := pop_len (c := 1) ws [] rs
  have last : ∀ h1, Gs s [] [] h h1 → RR s o B n (.error e) h1 → Ev 196 204 [.ref 69, .null, .null] [] h1 Q := by
    intro h1 g1 r1
    refine B_196_204 r1.sh (c_comes (c := 1) (cs := []) (Or.inl rfl) s2 r1.sh (C.gx g1 (by decide) (by decide)) (W.gx (g1.f (by decide)) (g1.at (by decide) (by decide))) (by omega) (fun h3 g3 C3 W3 => ?_))
    have r3 := r1.comeE g3 C3 (by omega)
    exact ⟨r3.sh, kk h3 ((g1.mono (by decide) (by decide)).tr (g3.mono (by decide) (by decide))) r3⟩
  refine B_196_96 r.sh (c_is (x := 41) (by decide) r ⟨r.sh, fun _ => ?_, fun z => absurd rfl z⟩)
  refine B_196_145 r.sh (c_is (x := 43) (by decide) r ⟨r.sh, fun z => absurd rfl z, fun _ => c_is (x := 45) (by decide) r ⟨r.sh, fun z => absurd rfl z, fun _ => c_is (x := 42) (by decide) r ⟨r.sh, fun z => absurd rfl z, fun _ => c_is (x := 47) (by decide) r ⟨r.sh, fun _ => ⟨fun z => absurd rfl z, fun _ => ⟨fun _ => last h Gs.rf r, fun _ => ?_⟩⟩, fun z => absurd rfl z⟩⟩⟩⟩)
  refine B_187_0 r.sh ⟨fun z => absurd z r.ne.2.1, fun _ => ⟨rfl, r.sh, last h Gs.rf r⟩⟩
theorem clo_op {k : Nat} (h : 0 < clo k) : k = 42 ∨ k = 47 ∨ k = 43 ∨ k = 45 := by
  unfold clo at h
  split at h
  · omega
  · split at h
    · omega
    · split at h
      · omega
      · split at h
        · omega
        · omega
theorem l_rexp {law : Bool} {pg : Nat} {M : Md} (e42 : xI h0 69 42 = if law = true then 1 else 0) (kk : ∀ h1, Gs s SE FE h0 h1 → RR s 0 B n M h1 → (∀ c, M = .ok c → c.2.2.2.length + 1 ≤ c.1) → Q .null h1) :
    ∀ f, (∀ (ne : Nat) (ws : List Nat) (a : Nat) (sf : Option (Nat × Nat)) (cs rs : List Cd) (h : XH), Gs s SE FE h0 h → RR s ne B n (.ok (a, sf, cs, rs)) h → WR ws h → WI ne ws → ne ≤ 6 → rs.length + ws.length + 1 ≤ a + ne → 401 ≤ f + a → M = xpr (kS B n) (pS B n) (vS B n) law pg f ne true ws (a, sf, cs, rs) → Ev 196 23 [.ref 69, .int (nI 0), .null] [] h Q) ∧
      (∀ (ne : Nat) (ws : List Nat) (a : Nat) (sf : Option (Nat × Nat)) (cs rs : List Cd) (h : XH), Gs s SE FE h0 h → RR s ne B n (.ok (a, sf, cs, rs)) h → WR ws h → WI ne ws → ne ≤ 6 → rs.length + ws.length + 1 ≤ a + ne → 401 ≤ f + a → M = xpr (kS B n) (pS B n) (vS B n) law pg f ne false ws (a, sf, cs, rs) → Ev 196 96 [.ref 69, .int (nI 0), .null] [] h Q) := by
  have fin : ∀ (er : Nat × Nat) (h' : XH) (o' : Nat), Gs s SE FE h0 h' → RR s o' B n (.error er) h' → M = .error er → Q .null h' := fun er h' o' g' r' em => kk h' g' (by rw [em]; exact r') (fun c hc => by rw [em] at hc; cases hc)
  intro f
  induction f with
  | zero =>
    refine ⟨fun ne ws a sf cs rs h g r W I hne hl hf eM => ?_, fun ne ws a sf cs rs h g r W I hne hl hf eM => ?_⟩
    · have := r.2.2.2.1.1; omega
    · have := r.2.2.2.1.1; omega
  | succ f ih =>
    refine ⟨fun ne ws a sf cs rs h g r W I hne hl hf eM => ?_, fun ne ws a sf cs rs h g r W I hne hl hf eM => ?_⟩
    · have wl := WI_len ne ws I
      have e12 : xI h 69 12 = nI ne := r.2.2.2.2.2.1
      have a4 := r.2.2.2.1.1
      have rl := r.2.2.2.2.2.2.1
      have ki : isM (kS B n) 40 (.ok (a, sf, cs, rs)) = if kS B n a = 40 then 1 else 0 := rfl
      have eM : M = if true = true ∧ kS B n a = 40 then (if ne < 6 then (if a < 400 then xpr (kS B n) (pS B n) (vS B n) law pg f (ne + 1) true (pu ws 40) (a + 1, sf, cs, rs) else .error (2, pS B n a)) else .error (2, pS B n a))
        else if true = true then (match unS (kS B n) (pS B n) (vS B n) law pg (.ok (a, sf, cs, rs)) with
          | .error e => .error e
          | .ok (_, sf', cs', rs') => if a < 400 then xpr (kS B n) (pS B n) (vS B n) law pg f ne false ws (a + 1, sf', cs', rs') else .error (2, pS B n a))
        else M := by rw [eM]; rfl
      refine B_196_23 r.sh (c_is (x := 40) (by decide) r ⟨r.sh, fun z => ?_, fun z => ?_⟩)
      · rw [ki] at z
        have k40 : ¬ kS B n a = 40 := fun q => by rw [if_pos q] at z; exact absurd z (by decide)
        rw [if_neg (fun q => k40 q.2), if_pos rfl] at eM
        refine c_unitR (pg := pg) (law := law) r (by rw [g.f (by decide)]; exact e42) (by omega) (fun h3 g3 r3 w1 w2 => ?_)
        have W3 := W.gx w1 w2
        have ue : unS (kS B n) (pS B n) (vS B n) law pg (.ok (a, sf, cs, rs)) = match unC (kS B n) (vS B n) pg a with
          | none => .error (1, pS B n a)
          | some c => .ok (a, if law = true ∧ kS B n a = 114 then sfO sf (some (6, pS B n a)) else sf, apC cs c, rs ++ [c]) := rfl
        cases hu : unC (kS B n) (vS B n) pg a with
        | none =>
          rw [hu] at ue
          rw [ue] at r3 eM
          have r3 : RR s ne B n (.error (1, pS B n a)) h3 := r3
          exact ⟨r3.sh, fun y => absurd y r3.ne.2.1, fun _ => fin _ h3 ne (g.tr g3) r3 eM⟩
        | some c =>
          rw [hu] at ue
          rw [ue] at r3 eM
          dsimp only at eM
          have eg : gnS (pS B n) (.ok (a, (if law = true ∧ kS B n a = 114 then sfO sf (some (6, pS B n a)) else sf), apC cs c, rs ++ [c])) = if a < 400 then .ok (a + 1, (if law = true ∧ kS B n a = 114 then sfO sf (some (6, pS B n a)) else sf), apC cs c, rs ++ [c]) else .error (2, pS B n a) := rfl
          dsimp only at r3
          rw [eg] at r3
          by_cases a4' : a < 400
          · rw [if_pos a4'] at r3 eM
            refine ⟨r3.sh, fun _ => (ih.2) ne ws (a + 1) _ _ _ h3 (g.tr g3) r3 W3 I hne (by rw [ap1]; omega) (by omega) eM, fun y => absurd (by rw [r3.z]; decide) y⟩
          · rw [if_neg a4'] at r3 eM
            exact ⟨r3.sh, fun y => absurd y r3.ne.2.1, fun _ => fin _ h3 ne (g.tr g3) r3 eM⟩
      · rw [ki] at z
        have k40 : kS B n a = 40 := Classical.byContradiction (fun q => z (by rw [if_neg q]; rfl))
        rw [if_pos ⟨rfl, k40⟩] at eM
        rw [e12]
        refine ⟨fun y => ?_, fun y => ?_⟩
        · have n6 : ne < 6 := by
            have : ne ≠ 6 := fun q => y (by rw [q]; rfl)
            omega
          rw [if_pos n6] at eM
          have r1 : RR s (ne + 1) B n (.ok (a, sf, cs, rs)) (xsI h 69 12 (nI (ne + 1))) := r.op
          have g1 : Gs s SE FE h (xsI h 69 12 (nI (ne + 1))) := Gs.rf.fld (by decide)
          have x5 : xI (xsI h 69 12 (nI (ne + 1))) 69 55 = xI h 69 55 := xI_sd (by decide)
          have x10 : xI (xsI h 69 12 (nI (ne + 1))) 105 = xI h 105 := xI_n (by decide)
          refine B_196_46 r.sh ?_
          rw [e12, nI_1]
          refine c_goesOn r1 (fun a' sf' cs' rs' e => by cases e; omega) (fun h3 g3 r3 w1 w2 => ?_)
          have W3 : WR ws h3 := W.gx (w1.trans x5) (w2.trans x10)
          have w55 : xI h3 69 55 = nI ws.length := W3.2.1
          have eg : gnS (pS B n) (.ok (a, sf, cs, rs)) = if a < 400 then .ok (a + 1, sf, cs, rs) else .error (2, pS B n a) := rfl
          rw [eg] at r3
          have P3 := W3.push (k := 40) (by omega) (Or.inl rfl)
          have g4 : Gs s [105] [55] h3 (xsI (xsI h3 105 ws.length (nI (rkd 40))) 69 55 (nI (ws.length + 1))) := (Gs.rf.set (by decide) (by decide)).fld (by decide)
          have i55 : xI (xsI h3 105 ws.length 6) 69 55 = nI ws.length := by rw [xI_n (by decide)]; exact w55
          rw [w55, tn_nI (show ws.length < 2 ^ 31 by omega), i55, nI_1]
          have gg : Gs s SE FE h0 (xsI (xsI h3 105 ws.length (nI (rkd 40))) 69 55 (nI (ws.length + 1))) := ((g.tr g1).tr g3).tr (g4.mono (by decide) (by decide))
          by_cases a4' : a < 400
          · rw [if_pos a4'] at r3 eM
            have r5 := r3.wt g4
            have pe : pu ws 40 = 40 :: ws := by unfold pu; rw [if_pos (by omega)]
            rw [pe] at eM
            exact ⟨r3.sh, inb (by omega) (by decide), (ih.1) (ne + 1) (40 :: ws) (a + 1) sf cs rs _ gg r5 P3 (WI_open I) (by omega) (by show rs.length + (ws.length + 1) + 1 ≤ _; omega) (by omega) eM⟩
          · rw [if_neg a4'] at r3 eM
            have r5 := r3.wt g4
            exact ⟨r3.sh, inb (by omega) (by decide), l_23e r5 (fun h6 g6 r6 => fin _ h6 _ (gg.tr g6) r6 eM)⟩
        · have n6 : ne = 6 := (nI_eq (b := 6) (by omega) (by decide)).mp (Classical.not_not.mp y)
          rw [if_neg (by omega)] at eM
          refine c_fail (x := 2) (by decide) r (fun c hc => by cases hc; show rs.length ≤ 402; omega) (fun h1 g1 r1 w1 w2 => ⟨r1.sh, ?_⟩)
          have r1 : RR s ne B n (.error (2, pS B n a)) h1 := r1
          have W1 := W.gx w1 w2
          refine B_196_46 r1.sh ?_
          have g2 : Gs s SE FE h1 (xsI h1 69 12 (xI h1 69 12 + 1)) := Gs.rf.fld (by decide)
          have r2 : RR s ne B n (.error (2, pS B n a)) (xsI h1 69 12 (xI h1 69 12 + 1)) := by
            obtain ⟨e1, e2, e3, e4, e5, ⟨b, e6, e7⟩, c, e8, e9⟩ := r1.2
            exact ⟨r1.1.gx g2, e1, e2, e3, by rw [xI_sd (by decide)]; exact e4, by rw [xI_sd (by decide)]; exact e5, ⟨b, e6, by rw [xI_sd (by decide)]; exact e7⟩, ⟨c, e8, by rw [xI_sd (by decide)]; exact e9⟩⟩
          refine c_goesOn r2 (fun a' sf' cs' rs' e => by cases e) (fun h3 g3 r3 v1 v2 => ?_)
          have r3 : RR s ne B n (.error (2, pS B n a)) h3 := r3
          have w55 : xI h3 69 55 = nI ws.length := by rw [v1, xI_sd (by decide)]; exact W1.2.1
          have i55 : xI (xsI h3 105 ws.length 6) 69 55 = nI ws.length := by rw [xI_n (by decide)]; exact w55
          have g4 : Gs s [105] [55] h3 (xsI (xsI h3 105 ws.length 6) 69 55 (nI (ws.length + 1))) := (Gs.rf.set (by decide) (by decide)).fld (by decide)
          rw [w55, tn_nI (show ws.length < 2 ^ 31 by omega), i55, nI_1]
          exact ⟨r3.sh, inb (by omega) (by decide), l_23e (r3.wt g4) (fun h6 g6 r6 => fin _ h6 _ ((((g.tr g1).tr g2).tr g3).tr ((g4.mono (by decide) (by decide)).tr g6)) r6 eM)⟩
    · have wl := WI_len ne ws I
      have e12 : xI h 69 12 = nI ne := r.2.2.2.2.2.1
      have a4 := r.2.2.2.1.1
      have rl := r.2.2.2.2.2.2.1
      have s2 := r.1.2.1
      have k9 := r.k
      have e11 : xI h 69 11 = nI a := r.2.2.1
      have ki : ∀ x, isM (kS B n) x (.ok (a, sf, cs, rs)) = if kS B n a = x then 1 else 0 := fun x => rfl
      have eM : M = if 0 < clo (kS B n a) then (if a < 400 then xpr (kS B n) (pS B n) (vS B n) law pg f ne true (pu (pop (clo (kS B n a)) ws cs rs).1 (kS B n a)) (a + 1, sf, (pop (clo (kS B n a)) ws cs rs).2.1, (pop (clo (kS B n a)) ws cs rs).2.2) else .error (2, pS B n a))
        else if kS B n a = 41 ∧ 0 < ne then (if a < 400 then xpr (kS B n) (pS B n) (vS B n) law pg f (ne - 1) false (pop 1 ws cs rs).1.tail (a + 1, sf, (pop 1 ws cs rs).2.1, (pop 1 ws cs rs).2.2) else .error (2, pS B n a))
        else if 0 < ne then .error (1, pS B n a)
        else .ok (a, sf, (pop 1 ws cs rs).2.1, (pop 1 ws cs rs).2.2) := by
        rw [eM]
        show (if false = true ∧ kS B n a = 40 then _ else if false = true then _ else _) = _
        rw [if_neg (fun q => by cases q.1), if_neg (by decide)]
      have pl1 := pop_len (c := 1) ws cs rs

      have e145 : ¬ (kS B n a = 41 ∧ 0 < ne) → Ev 196 145 [.ref 69, .int (nI 0), .null] [] h Q := by
        intro n41
        have op : (kS B n a = 42 ∨ kS B n a = 47 ∨ kS B n a = 43 ∨ kS B n a = 45) → Ev 196 181 [.ref 69, .int (nI 0), .null] [] h Q := by
          intro hop
          have c0 : 0 < clo (kS B n a) := by rcases hop with q | q | q | q <;> rw [q] <;> decide
          rw [if_pos c0, pop_W] at eM
          have pl := pop_len (c := clo (kS B n a)) ws cs rs
          have cl2 := clo_le (kS B n a)
          have wo := (WI_len ne _ (WI_op I c0)).2
          have wo : ne ≤ (popW (clo (kS B n a)) ws).length + 1 := wo
          have wle := popW_le (c := clo (kS B n a)) ws
          have go : ∀ c x, c = clo (kS B n a) → x = nI (c - 1) → ClV 199 [.ref 69, .int x] h (fun h3 => Sh h3 ∧ (InB (xI h3 69 11) 403 ∧ (InB (xI h3 69 55) 64 ∧ (∀ h5 : XH, h5 = (xsI (xsI h3 105 (tn (xI h3 69 55)) (xI h3 72 (tn (xI h3 69 11)))) 69 55 ((xI (xsI h3 105 (tn (xI h3 69 55)) (xI h3 72 (tn (xI h3 69 11)))) 69 55) + 1)) → (ClV 190 [.ref 69] h5 (fun h6 => Sh h6 ∧ (Ev 196 12 [.ref 69, .int (nI 0), .int 1] [] h6 Q))))))) := by
            intro c x ec ex
            subst ex
            subst ec
            refine c_comes (cs := cs) (by omega) s2 r.sh r.C W (by omega) (fun h3 g3 C3 W3 => ?_)
            have r3 := r.come (cs' := (pop (clo (kS B n a)) ws cs rs).2.1) g3 C3 (by omega) (pop_rf ws cs rs)
            have w55 : xI h3 69 55 = nI (popW (clo (kS B n a)) ws).length := W3.2.1
            have t11 : xI h3 69 11 = nI a := by rw [g3.f (by decide)]; exact e11
            have t72 : xI h3 72 a = nI (rkd (kS B n a)) := by rw [g3.at (by decide) (by decide)]; exact k9.1
            have wlp : (popW (clo (kS B n a)) ws).length ≤ ws.length := by omega
            have i55 : xI (xsI h3 105 (popW (clo (kS B n a)) ws).length (nI (rkd (kS B n a)))) 69 55 = nI (popW (clo (kS B n a)) ws).length := by rw [xI_n (by decide)]; exact w55
            rw [t11, w55, tn_nI (show a < 2 ^ 31 by omega), tn_nI (show (popW (clo (kS B n a)) ws).length < 2 ^ 31 by omega), t72, i55, nI_1]
            refine ⟨r3.sh, inb (by omega) (by decide), inb (by omega) (by decide), fun h5 eh => ?_⟩
            have P3 := W3.push (k := kS B n a) (by omega) (by unfold wOp; omega)
            have g4 : Gs s [105] [55] h3 (xsI (xsI h3 105 (popW (clo (kS B n a)) ws).length (nI (rkd (kS B n a)))) 69 55 (nI ((popW (clo (kS B n a)) ws).length + 1))) := (Gs.rf.set (by decide) (by decide)).fld (by decide)
            rw [← eh] at P3 g4
            have r5 := r3.wt g4
            refine c_goesOn r5 (fun a' sf' cs' rs' e => by cases e; omega) (fun h6 g6 r6 w1 w2 => ?_)
            have W6 := P3.gx w1 w2
            have gg : Gs s SE FE h0 h6 := ((g.tr (g3.mono (by decide) (by decide))).tr (g4.mono (by decide) (by decide))).tr g6
            have eg : gnS (pS B n) (.ok (a, sf, (pop (clo (kS B n a)) ws cs rs).2.1, (pop (clo (kS B n a)) ws cs rs).2.2)) = if a < 400 then .ok (a + 1, sf, (pop (clo (kS B n a)) ws cs rs).2.1, (pop (clo (kS B n a)) ws cs rs).2.2) else .error (2, pS B n a) := rfl
            rw [eg] at r6
            by_cases a4' : a < 400
            · rw [if_pos a4'] at r6 eM
              have pe : pu (popW (clo (kS B n a)) ws) (kS B n a) = kS B n a :: popW (clo (kS B n a)) ws := by unfold pu; rw [if_pos (by omega)]
              rw [pe] at eM
              refine ⟨r6.sh, B_196_12 r6.sh ⟨fun z => absurd z (by decide), fun _ => ⟨fun z => absurd r6.z z, fun _ => ?_⟩⟩⟩
              exact (ih.1) ne _ (a + 1) sf _ _ h6 gg r6 W6 (WI_op I c0) hne (by show (pop (clo (kS B n a)) ws cs rs).2.2.length + ((popW (clo (kS B n a)) ws).length + 1) + 1 ≤ _; omega) (by omega) eM
            · rw [if_neg a4'] at r6 eM
              exact ⟨r6.sh, B_196_12 r6.sh ⟨fun z => absurd z (by decide), fun _ => ⟨fun _ => B_196_272 r6.sh (fin _ h6 _ gg r6 eM), fun z => absurd r6.ne.1 z⟩⟩⟩
          refine B_196_181 r.sh ⟨fun _ => c_is (x := 42) (by decide) r ⟨r.sh, fun z => ?_, fun z => c_is (x := 47) (by decide) r ⟨r.sh, fun y => ?_, fun y => ?_⟩⟩, fun z => absurd (by decide : ¬ (1 : Int32) = 0) z⟩
          · rw [ki] at z
            have q : kS B n a = 42 := Classical.byContradiction (fun q => z (by rw [if_neg q]; rfl))
            exact go 2 1 (by rw [q]; rfl) rfl
          · rw [ki] at z y
            have q1 : kS B n a ≠ 42 := fun q => by rw [if_pos q] at z; exact z (by decide)
            have q2 : kS B n a ≠ 47 := fun q => by rw [if_pos q] at y; exact absurd y (by decide)
            exact go 1 0 (by rcases hop with q | q | q | q <;> first | exact absurd q q1 | exact absurd q q2 | (rw [q]; rfl)) rfl
          · rw [ki] at y
            have q : kS B n a = 47 := Classical.byContradiction (fun q => y (by rw [if_neg q]; rfl))
            exact go 2 1 (by rw [q]; rfl) rfl
        refine B_196_145 r.sh (c_is (x := 43) (by decide) r ⟨r.sh, fun z => op ?_, fun z43 => c_is (x := 45) (by decide) r ⟨r.sh, fun z => op ?_, fun z45 => c_is (x := 42) (by decide) r ⟨r.sh, fun z => op ?_, fun z42 => c_is (x := 47) (by decide) r ⟨r.sh, fun z47 => ⟨fun z => absurd rfl z, fun _ => ?_⟩, fun z => op ?_⟩⟩⟩⟩)
        · rw [ki] at z; have : kS B n a = 43 := Classical.byContradiction (fun q => z (by rw [if_neg q]; rfl)); omega
        · rw [ki] at z; have : kS B n a = 45 := Classical.byContradiction (fun q => z (by rw [if_neg q]; rfl)); omega
        · rw [ki] at z; have : kS B n a = 42 := Classical.byContradiction (fun q => z (by rw [if_neg q]; rfl)); omega
        · rw [ki] at z43 z45 z42 z47
          have c0 : ¬ 0 < clo (kS B n a) := by
            intro q
            rcases clo_op q with w | w | w | w
            · rw [if_pos w] at z42; exact z42 (by decide)
            · rw [if_pos w] at z47; exact absurd z47 (by decide)
            · rw [if_pos w] at z43; exact z43 (by decide)
            · rw [if_pos w] at z45; exact z45 (by decide)
          rw [if_neg c0, if_neg n41] at eM
          rw [e12]
          refine ⟨fun y => ?_, fun y => ?_⟩
          · have n0 : ne = 0 := by
              apply Classical.byContradiction
              intro q
              exact nI_ge (a := 0) (b := ne) (by omega) (by omega) y
            rw [if_neg (by omega)] at eM
            refine B_196_204 r.sh (c_comes (c := 1) (cs := cs) (Or.inl rfl) s2 r.sh r.C W (by omega) (fun h3 g3 C3 W3 => ?_))
            have r3 := r.come (cs' := (pop 1 ws cs rs).2.1) g3 C3 (by omega) (pop_rf ws cs rs)
            have eM2 : M = .ok (a, sf, (pop 1 ws cs rs).2.1, (pop 1 ws cs rs).2.2) := eM
            clear eM
            subst n0
            refine ⟨r3.sh, kk h3 (g.tr (g3.mono (by decide) (by decide))) (by rw [eM2]; exact r3) (fun c hc => ?_)⟩
            rw [eM2] at hc
            cases hc
            show (pop 1 ws cs rs).2.2.length + 1 ≤ a
            omega
          · have n0 : 0 < ne := by
              apply Classical.byContradiction
              intro q
              exact y (nI_le (a := ne) (b := 0) (by omega) (by decide))
            rw [if_pos n0] at eM
            have wp := WI_pop1 I
            refine c_failV (o := ne) (x := 1) (by decide) r.1 r.2.1 e11 r.2.2.2.1 r.C.1 (by omega) (fun h1 g1 r1 => ⟨r1.sh, ?_⟩)
            refine B_196_204 r1.sh (c_comes (c := 1) (cs := cs) (Or.inl rfl) s2 r1.sh (r.C.gx g1 (by decide) (by decide)) (W.gx (g1.f (by decide)) (g1.at (by decide) (by decide))) (by omega) (fun h3 g3 C3 W3 => ?_))
            have r3 := r1.comeE g3 C3 (by omega)
            exact ⟨r3.sh, fin _ h3 _ ((g.tr (g1.mono (by decide) (by decide))).tr (g3.mono (by decide) (by decide))) r3 eM⟩
        · rw [ki] at z; have : kS B n a = 47 := Classical.byContradiction (fun q => z (by rw [if_neg q]; rfl)); omega
      refine B_196_96 r.sh (c_is (x := 41) (by decide) r ⟨r.sh, fun z => e145 (fun q => ?_), fun z => ?_⟩)
      · rw [ki, if_pos q.1] at z; exact absurd z (by decide)
      · rw [ki] at z
        have k41 : kS B n a = 41 := Classical.byContradiction (fun q => z (by rw [if_neg q]; rfl))
        rw [e12]
        refine ⟨fun y => e145 (fun q => nI_ge (a := 0) (b := ne) q.2 (by omega) y), fun y => ?_⟩
        have n0 : 0 < ne := by
          apply Classical.byContradiction
          intro q
          exact y (nI_le (a := ne) (b := 0) (by omega) (by decide))
        rw [if_neg (by rw [k41]; decide), if_pos ⟨k41, n0⟩, pop_W] at eM
        obtain ⟨ne', rfl⟩ : ∃ k, ne = k + 1 := ⟨ne - 1, by omega⟩
        obtain ⟨rr, epop, I'⟩ := WI_close I
        rw [epop] at eM pl1
        have eM : M = if a < 400 then xpr (kS B n) (pS B n) (vS B n) law pg f ne' false rr (a + 1, sf, (pop 1 ws cs rs).2.1, (pop 1 ws cs rs).2.2) else .error (2, pS B n a) := eM
        have pl1 : (pop 1 ws cs rs).2.2.length + (rr.length + 1) = rs.length + ws.length := pl1
        refine c_comes (c := 1) (cs := cs) (Or.inl rfl) s2 r.sh r.C W (by omega) (fun h3 g3 C3 W3 => ?_)
        rw [epop] at W3
        have wr0 := (WI_len ne' rr I').2
        have r3 := r.come (cs' := (pop 1 ws cs rs).2.1) g3 C3 (by omega) (pop_rf ws cs rs)
        obtain ⟨u1, u2, u3, u4⟩ := W3
        have u2 : xI h3 69 55 = nI (rr.length + 1) := u2
        have i1 : nI (rr.length + 1) - (1 : Int32) = nI rr.length := by rw [show (1 : Int32) = nI 1 from rfl, pk_sub (by omega), Nat.add_sub_cancel]
        have o3 : xI h3 69 12 = nI (ne' + 1) := r3.2.2.2.2.2.1
        have i2 : nI (ne' + 1) - (1 : Int32) = nI ne' := by rw [show (1 : Int32) = nI 1 from rfl, pk_sub (by omega), Nat.add_sub_cancel]
        have o4 : xI (xsI h3 69 55 (nI rr.length)) 69 12 = nI (ne' + 1) := by rw [xI_sd (by decide)]; exact o3
        rw [u2, i1, o4, i2]
        have g4 : Gs s [105] [55] h3 (xsI h3 69 55 (nI rr.length)) := Gs.rf.fld (by decide)
        have r5 : RR s ne' B n (.ok (a, sf, (pop 1 ws cs rs).2.1, (pop 1 ws cs rs).2.2)) (xsI (xsI h3 69 55 (nI rr.length)) 69 12 (nI ne')) := (r3.wt g4).op
        have g5 : Gs s SE FE h3 (xsI (xsI h3 69 55 (nI rr.length)) 69 12 (nI ne')) := (g4.mono (by decide) (by decide)).fld (by decide)
        have ul : rr.length + 1 ≤ 40 := u1
        have W5 : WR rr (xsI (xsI h3 69 55 (nI rr.length)) 69 12 (nI ne')) := ⟨by omega, by rw [xI_sd (by decide)]; exact xI_ss, by rw [xI_n (by decide), xI_n (by decide)]; exact u3.2, fun y hy => u4 y (List.mem_cons_of_mem _ hy)⟩
        have wr := (WI_len ne' rr I').2
        obtain ⟨q1, q2, q3, q4, q5, q6, q7, q8, q9, q10⟩ := r5.2
        refine ⟨r3.sh, c_goesU (cs := (pop 1 ws cs rs).2.1) r5.1 q1 q2 q3 (by omega) q4.v (fun x y e => Nat.le_of_lt (q4.lt x y e)) q5 (by omega) r5.C r5.R (fun h6 g6 r6 => ?_)⟩
        have W6 := W5.gx (g6.f (by decide)) (g6.at (by decide) (by decide))
        have C6 := r5.C.gx g6 (by decide) (by decide)
        have gg : Gs s SE FE h0 h6 := ((g.tr (g3.mono (by decide) (by decide))).tr g5).tr (g6.mono (by decide) (by decide))
        have eg : gnS (pS B n) (.ok (a, sf, (pop 1 ws cs rs).2.1, (pop 1 ws cs rs).2.2)) = if a < 400 then .ok (a + 1, sf, (pop 1 ws cs rs).2.1, (pop 1 ws cs rs).2.2) else .error (2, pS B n a) := rfl
        rw [eg] at r6
        by_cases a4' : a < 400
        · rw [if_pos a4'] at r6 eM
          exact ⟨r6.sh, (ih.2) ne' rr (a + 1) sf _ _ h6 gg r6 W6 I' (by omega) (by omega) (by omega) eM⟩
        · rw [if_neg a4'] at r6 eM
          exact ⟨r6.sh, l_96e (ne := ne') s2 r6 C6 W6 I' (by omega) (by omega) (fun h7 g7 r7 => fin _ h7 _ (gg.tr g7) r7 eM)⟩
end RX2

/-! RUN: a told text's codes gone through with a pile -/
def aop (op a b : Int32) : Int32 := if op = 2 then a + b else if op = 3 then a - b else if op = 4 then a * b else if op = 5 then a / b else if op = 6 then (if b ≤ a then 0 else 1) else if op = 7 then (if a = b then 1 else 0) else (if a ≤ b then 0 else 1)
def rn (cd : Nat → Int32) (len : Nat) (rw : Nat → Int32) : Nat → Nat → List Int32 → Option Int32
  | 0, _, _ => none
  | f + 1, at', st =>
    if len ≤ at' then none
    else if ¬ 1 < (cd at' &&& 15) then (if st.length < 32 then rn cd len rw f (at' + 1) ((if cd at' &&& 15 = 0 then cd at' >>> (4 &&& 31) else rw (tn (cd at' >>> (4 &&& 31)))) :: st) else none)
    else match st with
      | [] => none
      | b :: s => if cd at' &&& 15 = 10 then some b
        else if cd at' &&& 15 = 9 then (if b = 0 ∧ nI at' < cd at' >>> (4 &&& 31) then rn cd len rw f (tn (cd at' >>> (4 &&& 31))) s else rn cd len rw f (at' + 1) s)
        else match s with
          | [] => none
          | a :: s' => if cd at' &&& 15 = 5 ∧ b = 0 then none else rn cd len rw f (at' + 1) (aop (cd at' &&& 15) a b :: s')
/-- the codes are such that no place outside a row is looked at -/
def cdW (cd : Nat → Int32) (len : Nat) : Prop := len ≤ 512 ∧ ∀ i, i < len → cd i &&& 15 = 1 → InB (cd i >>> (4 &&& 31)) 20
/-- the pile as a row holds it: the last one on top -/
def pl_is (f : Nat → Int32) : List Int32 → Prop
  | [] => True
  | b :: s => f s.length = b ∧ pl_is f s
theorem pl_up {f : Nat → Int32} {v : Int32} : ∀ {s : List Int32} {n : Nat}, s.length ≤ n → pl_is f s → pl_is (up f n v) s := by
  intro s
  induction s with
  | nil => intro n _ _; trivial
  | cons b s ih =>
    intro n hn h
    exact ⟨(up_ne (by simp at hn; omega)).trans h.1, ih (by simp at hn; omega) h.2⟩
theorem nI_le' {x : Int32} {n : Nat} (hn : n < 2 ^ 31) (h : nI n < x) : ∃ m : Nat, n < m ∧ m < 2 ^ 31 ∧ x = nI m := by
  have h0 : ¬ x < 0 := fun q => absurd (Int32.lt_trans h q) (nI_pos hn)
  obtain ⟨m, hm, rfl⟩ := nI_of h0
  exact ⟨m, (nI_ltI hn hm).mp h, hm, rfl⟩
theorem Fx.sh' {S : List Nat} {h0 h : XH} (hs : Sh h) (f : Fx S h0 h) (h1 : 1 ∉ S := by decide) : Sh h0 := hs.fr f.2.2.1.symm f.2.2.2.1.symm f.1.symm f.2.2.2.2.1.symm (f.2.2.2.2.2.2 1 h1).symm
theorem rn_out {cd : Nat → Int32} {len : Nat} {rw : Nat → Int32} {at' : Nat} {st : List Int32} (h : len ≤ at') : ∀ f, rn cd len rw f at' st = none := by
  intro f
  cases f with
  | zero => rfl
  | succ f => unfold rn; rw [if_pos h]
theorem l_run {row sc : Nat} {len : Nat} {Q : Value → XH → Prop} {h0 : XH} (hw : cdW (xI h0 (sc + 9)) len) (hsc : sc = 14 ∨ sc = 24) (hrow : row ≠ 34 ∧ row ≠ 35) : ∀ (f at' : Nat) (st : List Int32) (h : XH), Sh h → Ar h row 20 → Fx [34, 35] h0 h → pl_is (xI h 35) st → st.length ≤ 32 → len ≤ at' + f → at' < 2 ^ 31 →
    (∀ h1, Fx [34, 35] h0 h1 → (rn (xI h0 (sc + 9)) len (xI h0 row) (f + 1) at' st = none → Q (.int 0) h1) ∧ ∀ v, rn (xI h0 (sc + 9)) len (xI h0 row) (f + 1) at' st = some v → xI h1 34 5 = v → Q (.int 1) h1) →
    Ev 57 23 [.ref 34, .null, .ref row, .ref (sc + 9), .int (nI len), .int (nI st.length), .int (nI at'), .null, .null, .null, .null] [] h Q := by
  have hl512 := hw.1
  have hn9 : sc + 9 ∉ [34, 35] := by rcases hsc with rfl | rfl <;> decide
  have hnr : row ∉ [34, 35] := by simp [hrow.1, hrow.2]
  intro f
  induction f with
  | zero =>
    intro at' st h hs ra fx hp hl hf ha k
    refine B_57_23 hs ra (sc_a9 hs hsc) ⟨fun z => absurd z (nI_pos ha), fun _ => ⟨fun _ => B_57_375 hs ((k h fx).1 (rn_out (by omega) _)), fun z => absurd (nI_le (by omega) ha) z⟩⟩
  | succ f ih =>
    intro at' st h hs ra fx hp hl hf ha k
    by_cases hat : len ≤ at'
    · refine B_57_23 hs ra (sc_a9 hs hsc) ⟨fun z => absurd z (nI_pos ha), fun _ => ⟨fun _ => B_57_375 hs ((k h fx).1 (rn_out hat _)), fun z => absurd (nI_le hat ha) z⟩⟩
    · have hib : InB (nI at') 512 := inb (by omega) (by decide)
      refine B_57_23 hs ra (sc_a9 hs hsc) ⟨fun z => absurd z (nI_pos ha), fun _ => ⟨fun z => absurd z (nI_ge (by omega) (by omega)), fun _ => ⟨hib, hib, ?_⟩⟩⟩
      rw [tn_nI ha, fx.at hn9]
      unfold rn at k
      rw [if_neg hat] at k
      have hwi := hw.2 at' (by omega)
      generalize xI h0 (sc + 9) at' = c at k hwi ⊢
      have key : ∀ (st' : List Int32) (h' : XH) (at2 : Nat), Sh h' → Fx [34, 35] h0 h' → pl_is (xI h' 35) st' → st'.length ≤ 32 → len ≤ at2 + f → at2 < 2 ^ 31 → (∀ h1, Fx [34, 35] h0 h1 → (rn (xI h0 (sc + 9)) len (xI h0 row) (f + 1) at2 st' = none → Q (.int 0) h1) ∧ ∀ v, rn (xI h0 (sc + 9)) len (xI h0 row) (f + 1) at2 st' = some v → xI h1 34 5 = v → Q (.int 1) h1) → ∀ w, w + 1 = nI at2 → Ev 57 369 [.ref 34, .null, .ref row, .ref (sc + 9), .int (nI len), .int (nI st'.length), .int w, .null, .null, .null, .null] [] h' Q := by
        intro st' h' at2 hs' fx' hp' hl' hf' ha' k' w hwx
        have ra' : Ar h' row 20 := by
          unfold Ar at ra ⊢
          rw [fx'.2.2.1, fx'.2.2.2.1]
          rw [fx.2.2.1, fx.2.2.2.1] at ra
          exact ra
        refine B_57_369 hs' ra' (sc_a9 hs' hsc) ?_
        rw [hwx]
        exact ih at2 st' h' hs' ra' fx' hp' hl' hf' ha' k'
      refine ⟨fun z1 => ?_, fun z1 => ?_⟩
      · rw [if_neg (not_not_intro z1)] at k
        cases st with
        | nil => exact ⟨fun z => absurd z (by decide), fun _ => (k h fx).1 rfl⟩
        | cons b s =>
          have hl1 : s.length + 1 ≤ 32 := hl
          have hx5 : nI (b :: s).length + (-1) = nI s.length := pk_m1 s.length
          rw [hx5]
          have hb : xI h 35 (tn (nI s.length)) = b := by rw [tn_nI (by omega)]; exact hp.1
          rw [hb]
          refine ⟨fun _ => ⟨inb (by omega) (by decide), fun z2 => ⟨fun z3 => ?_, fun z3 => ?_⟩, fun z2 => ?_⟩, fun z => absurd (nI_le (a := 1) (b := s.length + 1) (by omega) (by omega)) z⟩
          · -- a sign with two sides
            dsimp only at k
            rw [if_neg z2, if_neg z3] at k
            cases s with
            | nil => exact ⟨fun _ => B_57_179 hs ((k h fx).1 rfl), fun z => absurd (by decide) z⟩
            | cons a s' =>
              have hl2 : s'.length + 2 ≤ 32 := hl1
              refine ⟨fun z => absurd z (nI_nlt (a := s'.length + 1) (b := 1) (by omega) (by omega)), fun _ => ?_⟩
              have e181 : ¬ (c &&& 15 = 5 ∧ b = 0) → Ev 57 181 [.ref 34, .null, .ref row, .ref (sc + 9), .int (nI len), .int (nI (a :: s').length), .int (nI at'), .int (c &&& 15), .null, .int b, .null] [] h Q := by
                intro hd0
                dsimp only at k
                rw [if_neg hd0] at k
                have ha1 : nI (a :: s').length - 1 = nI s'.length := nI_pred s'.length
                refine B_57_181 hs ra (sc_a9 hs hsc) ?_
                rw [ha1, tn_nI (show s'.length < 2 ^ 31 by omega), show xI h 35 s'.length = a from hp.2.1]
                have hib2 : InB (nI s'.length) 32 := inb (by omega) (by decide)
                have go : ∀ v, v = aop (c &&& 15) a b → Ev 57 369 [.ref 34, .null, .ref row, .ref (sc + 9), .int (nI len), .int (nI (a :: s').length), .int (nI at'), .null, .null, .null, .null] [] (xsI h 35 s'.length v) Q := by
                  intro v hv
                  subst hv
                  have fx' : Fx [34, 35] h0 (xsI h 35 s'.length (aop (c &&& 15) a b)) := fx.set (by decide)
                  exact key (aop (c &&& 15) a b :: s') _ (at' + 1) (fx'.sh (Fx.sh' hs fx) (by decide)) fx' ⟨by rw [xI_s]; exact up_same, by rw [xI_s]; exact pl_up (Nat.le_refl _) hp.2.2⟩ (by simp; omega) (by omega) (by omega) k _ (nI_1 at')
                refine ⟨hib2, fun q => ⟨hib2, go _ (by simp [aop, q])⟩, fun q2 => ⟨fun q => ⟨hib2, go _ (by simp [aop, q])⟩, fun q3 => ⟨fun q => ⟨hib2, go _ (by simp [aop, q])⟩, fun q4 => ⟨fun q => ⟨fun z => hd0 ⟨q, z⟩, hib2, go _ (by simp [aop, q])⟩, fun q5 => ⟨fun q => ⟨fun z => ⟨hib2, go _ (by simp [aop, q, z])⟩, fun z => ⟨hib2, go _ (by simp [aop, q, z])⟩⟩, fun q6 => ⟨fun q => ⟨fun z => ⟨hib2, go _ (by simp [aop, q, z])⟩, fun z => ⟨hib2, go _ (by simp [aop, q, Decidable.not_not.mp z])⟩⟩, fun q7 => ⟨fun z => ⟨hib2, go _ (by simp [aop, q2, q3, q4, q5, q6, q7, z])⟩, fun z => ⟨hib2, go _ (by simp [aop, q2, q3, q4, q5, q6, q7, z])⟩⟩⟩⟩⟩⟩⟩⟩
              refine ⟨fun z4 => e181 (fun q => z4 q.1), fun z4 => ⟨fun z5 => e181 (fun q => z5 q.2), fun z5 => B_57_179 hs ?_⟩⟩
              have q4 := Decidable.not_not.mp z4
              have q5 := Decidable.not_not.mp z5
              dsimp only at k
              rw [if_pos ⟨q4, q5⟩] at k
              exact (k h fx).1 rfl
          · -- a test: on, or to its else
            have q3 := Decidable.not_not.mp z3
            dsimp only at k
            rw [if_neg z2, if_pos q3] at k
            refine ⟨fun z4 => ?_, fun z4 => ⟨fun z5 => ?_, fun z5 => ?_⟩⟩
            · rw [if_neg (fun q => z4 q.1)] at k
              exact B_57_155 hs ra (sc_a9 hs hsc) (key s h (at' + 1) hs fx hp.2 (by omega) (by omega) (by omega) k _ (nI_1 at'))
            · rw [if_neg (fun q => absurd z5 (Int32.not_le.mpr q.2))] at k
              exact B_57_155 hs ra (sc_a9 hs hsc) (key s h (at' + 1) hs fx hp.2 (by omega) (by omega) (by omega) k _ (nI_1 at'))
            · have q5 := Int32.not_le.mp z5
              rw [if_pos ⟨Decidable.not_not.mp z4, q5⟩] at k
              obtain ⟨m, hm1, hm2, hm3⟩ := nI_le' ha q5
              rw [hm3, tn_nI hm2] at k
              rw [hm3]
              exact key s h m hs fx hp.2 (by omega) (by omega) hm2 k _ (Int32.sub_add_cancel _ _)
          · -- the end
            have q2 := Decidable.not_not.mp z2
            dsimp only at k
            rw [if_pos q2] at k
            exact (k (xsI h 34 5 b) (fx.set (by decide))).2 b rfl (by rw [xI_s]; exact up_same)
      · rw [if_pos z1] at k
        refine ⟨fun z2 => ?_, fun z2 => ?_⟩
        · have hlt : st.length < 32 := (nI_ltI (b := 32) (by omega) (by decide)).mp z2
          rw [if_pos hlt] at k
          have hib3 : InB (nI st.length) 32 := inb hlt (by decide)
          have go : ∀ v, v = (if c &&& 15 = 0 then c >>> (4 &&& 31) else xI h0 row (tn (c >>> (4 &&& 31)))) → Ev 57 369 [.ref 34, .null, .ref row, .ref (sc + 9), .int (nI len), .int (nI st.length + 1), .int (nI at'), .null, .null, .null, .null] [] (xsI h 35 (tn (nI st.length)) v) Q := by
            intro v hv
            rw [← hv] at k
            rw [tn_nI (by omega), nI_1]
            have fx' : Fx [34, 35] h0 (xsI h 35 st.length v) := fx.set (by decide)
            exact key (v :: st) _ (at' + 1) (fx'.sh (Fx.sh' hs fx) (by decide)) fx' ⟨by rw [xI_s]; exact up_same, by rw [xI_s]; exact pl_up (Nat.le_refl _) hp⟩ (by simp; omega) (by omega) (by omega) k _ (nI_1 at')
          refine ⟨fun z3 => ?_, fun z3 => ⟨hib3, go _ (by rw [if_pos (Decidable.not_not.mp z3)])⟩⟩
          have h1 : c &&& 15 = 1 := by
            obtain ⟨j, hj, e⟩ := pk_andE c (m := 15) 4 (by decide)
            rw [e] at z1 z3 ⊢
            have hj : j < 16 := hj
            have h0 : j ≠ 0 := fun q => z3 (by rw [q]; rfl)
            have h2 : ¬ 1 < j := fun q => z1 (nI_lt (a := 1) q (by omega))
            rw [show j = 1 by omega]
            rfl
          rw [fx.at hnr]
          exact ⟨hwi h1, hib3, go _ (by rw [if_neg z3])⟩
        · rw [if_neg (fun q => z2 (nI_lt q (by decide)))] at k
          exact (k h fx).1 rfl
/-- a claim's or a law's codes from a place on: without sense, or what comes out -/
def rnA (h : XH) (row : Nat → Int32) (from' : Int32) : Option Int32 := if from' < 0 then none else rn (xI h (xR h 34 0 + 9)) (tn (xI h (xR h 34 0) 7)) row (tn (xI h (xR h 34 0) 7) + 1) (tn from') []
/-- the text in use holds codes -/
def cdOk (h : XH) : Prop := cdW (xI h (xR h 34 0 + 9)) (tn (xI h (xR h 34 0) 7)) ∧ ¬ xI h (xR h 34 0) 7 < 0
theorem c_run {h : XH} {row : Nat} {x1 : Int32} {K : Int32 → XH → Prop} (hs : Sh h) (r : Ar h row 20) (hrow : row ≠ 34 ∧ row ≠ 35) (hc : cdOk h) (k : ∀ h1, Fx [34, 35] h h1 → (rnA h (xI h row) x1 = none → K 0 h1) ∧ ∀ v, rnA h (xI h row) x1 = some v → xI h1 34 5 = v → K 1 h1) : ClI 57 [.ref 34, .int x1, .ref row] h K := by
  refine B_57_0 hs r ?_
  obtain ⟨len, hlen, elen⟩ := nI_of hc.2
  have hc1 := hc.1
  unfold rnA at k
  rw [elen, tn_nI hlen] at k hc1
  rw [elen]
  by_cases hx : x1 < 0
  · have k0 := (k h Fx.rf).1 (by rw [if_pos hx])
    exact B_57_23 (x5 := 0) hs r (sc_a9 hs (ss_p hs)) ⟨fun _ => B_57_375 hs ⟨_, rfl, k0⟩, fun z => absurd hx z⟩
  · rw [if_neg hx] at k
    obtain ⟨a, ha, rfl⟩ := nI_of hx
    rw [tn_nI ha] at k
    exact l_run hc1 (ss_p hs) hrow len a [] h hs r Fx.rf trivial (by decide) (by omega) ha (fun h1 f => ⟨fun q => ⟨_, rfl, (k h1 f).1 q⟩, fun v q w => ⟨_, rfl, (k h1 f).2 v q w⟩⟩)

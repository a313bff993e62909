/-! READING: all statements -/
def lift (m : Md) (st : St) : Tx := match m with
  | .error e => .error e
  | .ok c => .ok (c, st)
def slS (p v : Nat → Nat) (a : Nat) (m : Md) : Md := if v (a + 1) ≤ 100 then m else sftS p 5 (a + 1) m
def goB (B : Nat → Nat) (n : Nat) (F : List Fa) (pg a : Nat) (m : Md) : List Br := (lawM (kS B n) (pS B n) (vS B n) pg (goM B n F pg a (tkS (kS B n) (pS B n) 2 (tkS (kS B n) (pS B n) 103 m)))).2 ++ [(0, 0, 0, rlM (lawM (kS B n) (pS B n) (vS B n) pg (goM B n F pg a (tkS (kS B n) (pS B n) 2 (tkS (kS B n) (pS B n) 103 m)))).1, rlM (exS (kS B n) (pS B n) (vS B n) true pg (lawM (kS B n) (pS B n) (vS B n) pg (goM B n F pg a (tkS (kS B n) (pS B n) 2 (tkS (kS B n) (pS B n) 103 m)))).1))]
def stS (B : Nat → Nat) (n : Nat) (x : Co × St) : Tx := match x with
  | ((a, sf, cs, rs), (F, G, LW, BR, sl, sd, pg)) =>
    if kS B n a = 100 then lift (faS B n F G a (.ok (a, sf, cs, rs))) (F ++ [faN B n a], G, LW, BR, sl, sd, pg)
    else if kS B n a = 103 then lift (goS B n F pg a (.ok (a, sf, cs, rs))) (F, G, goL B n F LW BR.length (BR ++ goB B n F pg a (.ok (a, sf, cs, rs))).length a cs.length, BR ++ goB B n F pg a (.ok (a, sf, cs, rs)), sl, sd, pg)
    else if kS B n a = 104 then lift (pgS B n F G a (.ok (a, sf, cs, rs))) (F, G ++ [pgN B n F G a (.ok (a, sf, cs, rs))], LW, BR, sl, sd, G.length)
    else if kS B n a = 109 then lift (slS (pS B n) (vS B n) a (tkS (kS B n) (pS B n) 59 (tkS (kS B n) (pS B n) 3 (tkS (kS B n) (pS B n) 109 (.ok (a, sf, cs, rs)))))) (F, G, LW, BR, vS B n (a + 1), sd, pg)
    else if kS B n a = 110 then lift (tkS (kS B n) (pS B n) 59 (tkS (kS B n) (pS B n) 3 (tkS (kS B n) (pS B n) 110 (.ok (a, sf, cs, rs))))) (F, G, LW, BR, sl, vS B n (a + 1), pg)
    else .error (1, pS B n a)
def txL (B : Nat → Nat) (n : Nat) : Nat → Co × St → Tx
  | 0, x => .ok x
  | f + 1, x => if kS B n x.1.1 = 0 then .ok x else match stS B n x with
    | .error e => .error e
    | .ok y => txL B n f y
def stZ0 (pg : Nat) : St := ([], [], [], [], 0, 0, pg)
def co0 : Co := (0, none, [], [])
section CAL
variable {it : Nat} {B : Nat → Nat} {n : Nat} {h h0 : XH} {m : Md} {Q : Value → XH → Prop} {st : St}
theorem lift_R (r : RC it B n m h) (s : ∀ c, m = .ok c → sR it st h) : tR2 it B n (lift m st) h := by
  match m, r, s with
  | .error e, r, s => exact r
  | .ok c, r, s => exact ⟨r, s c rfl⟩
theorem l_all36e {e : Nat × Nat} {x2 : Int32} (r : RC it B n (.error e) h) (kk : Q .null h) : Ev 21 36 [.ref 6, .null, .int x2] [] h Q :=
  B_21_36 r.sh ⟨fun _ => B_21_174 r.sh kk, fun _ => ⟨fun _ => B_21_174 r.sh kk, fun z => absurd r.ne z⟩⟩
theorem l_all {M : Tx} (hB : ∀ i, B i < 256) (kk : ∀ h1, LI it h0 h1 → tR2 it B n M h1 → Q .null h1) :
    ∀ (f : Nat) (x : Co × St) (h : XH), f ≤ 401 → LI it h0 h → tR2 it B n (.ok x) h → M = txL B n f x → Ev 21 36 [.ref 6, .null, .int (nI (401 - f))] [] h Q := by
  intro f
  induction f with
  | zero =>
    intro x h hf fx t eM
    have r : RC it B n (.ok x.1) h := t.1
    exact B_21_36 r.sh ⟨fun _ => B_21_174 r.sh (kk h fx (by rw [eM]; exact t)), fun z => absurd (nI_lt (a := 400) (b := 401) (by decide) (by decide)) z⟩
  | succ f ih =>
    intro x h hf fx t eM
    obtain ⟨⟨a, sf, cs, rs⟩, F, G, LW, BR, sl, sd, pg⟩ := x
    have r : RC it B n (.ok (a, sf, cs, rs)) h := t.1
    have s : sR it (F, G, LW, BR, sl, sd, pg) h := t.2
    have k9 := r.k
    have e1 : xI h 6 1 = nI 0 := r.2.1
    have e5 : xI h 6 5 = nI a := r.2.2.2.1
    have kl := kS_lt (n := n) hB a
    have e : ∀ y, y < 256 → (nI (kS B n a) = nI y ↔ kS B n a = y) := fun y hy => nI_eq (by omega) (by omega)
    have n4 : ¬ (400 : Int32) < nI (401 - (f + 1)) := nI_nlt (a := 400) (b := 401 - (f + 1)) (by omega) (by decide)
    have eM : M = if kS B n a = 0 then .ok ((a, sf, cs, rs), (F, G, LW, BR, sl, sd, pg)) else match stS B n ((a, sf, cs, rs), (F, G, LW, BR, sl, sd, pg)) with
      | .error e => .error e
      | .ok y => txL B n f y := eM
    have nx : ∀ h1, LI it h h1 → kS B n a ≠ 0 → tR2 it B n (stS B n ((a, sf, cs, rs), (F, G, LW, BR, sl, sd, pg))) h1 → Ev 21 168 [.ref 6, .null, .int (nI (401 - (f + 1)))] [] h1 Q := by
      intro h1 f1 k0 t1
      rw [if_neg k0] at eM
      match hm : stS B n ((a, sf, cs, rs), (F, G, LW, BR, sl, sd, pg)) with
      | .error er =>
        rw [hm] at t1 eM
        have r1 : RC it B n (.error er) h1 := t1
        exact B_21_168 r1.sh (l_all36e r1 (kk h1 (fx.tr f1) (by rw [eM]; exact t1)))
      | .ok y =>
        rw [hm] at t1 eM
        have r1 : RC it B n (.ok y.1) h1 := t1.1
        refine B_21_168 r1.sh ?_
        rw [nI_1, show 401 - (f + 1) + 1 = 401 - f by omega]
        exact ih y h1 (by omega) (fx.tr f1) t1 eM
    have es : stS B n ((a, sf, cs, rs), (F, G, LW, BR, sl, sd, pg)) = if kS B n a = 100 then lift (faS B n F G a (.ok (a, sf, cs, rs))) (F ++ [faN B n a], G, LW, BR, sl, sd, pg)
      else if kS B n a = 103 then lift (goS B n F pg a (.ok (a, sf, cs, rs))) (F, G, goL B n F LW BR.length (BR ++ goB B n F pg a (.ok (a, sf, cs, rs))).length a cs.length, BR ++ goB B n F pg a (.ok (a, sf, cs, rs)), sl, sd, pg)
      else if kS B n a = 104 then lift (pgS B n F G a (.ok (a, sf, cs, rs))) (F, G ++ [pgN B n F G a (.ok (a, sf, cs, rs))], LW, BR, sl, sd, G.length)
      else if kS B n a = 109 then lift (slS (pS B n) (vS B n) a (tkS (kS B n) (pS B n) 59 (tkS (kS B n) (pS B n) 3 (tkS (kS B n) (pS B n) 109 (.ok (a, sf, cs, rs)))))) (F, G, LW, BR, vS B n (a + 1), sd, pg)
      else if kS B n a = 110 then lift (tkS (kS B n) (pS B n) 59 (tkS (kS B n) (pS B n) 3 (tkS (kS B n) (pS B n) 110 (.ok (a, sf, cs, rs))))) (F, G, LW, BR, sl, vS B n (a + 1), pg)
      else .error (1, pS B n a) := rfl
    have bad : kS B n a ≠ 0 → kS B n a ≠ 100 → kS B n a ≠ 103 → kS B n a ≠ 104 → kS B n a ≠ 109 → kS B n a ≠ 110 → ClV 25 [.ref 6, .int 1] h (fun h3 => Sh h3 ∧ (Ev 21 168 [.ref 6, .null, .int (nI (401 - (f + 1)))] [] h3 Q)) := by
      intro k0 k100 k103 k104 k109 k110
      rw [if_neg k100, if_neg k103, if_neg k104, if_neg k109, if_neg k110] at es
      exact c_blame (x := 1) (by decide) r (fun h3 f3 r3 => ⟨r3.sh, nx h3 f3.w.si k0 (by rw [es]; exact r3)⟩)
    refine B_21_36 r.sh ?_
    rw [e1, e5, tn_nI (show a < 2 ^ 31 by omega), k9.1]
    have i4 : InB (nI a) 402 := inb (by omega) (by decide)
    refine ⟨fun z => absurd z n4, fun _ => ⟨fun z => absurd rfl z, fun _ => ⟨i4, fun z => ?_, fun z0 => ⟨i4, ?_⟩⟩⟩⟩
    · have k0 : kS B n a = 0 := (e 0 (by decide)).mp z
      rw [if_pos k0] at eM
      exact B_21_174 r.sh (kk h fx (by rw [eM]; exact t))
    · have k0 : kS B n a ≠ 0 := fun q => z0 (by rw [q]; rfl)
      refine ⟨fun z => ?_, fun z100 => ⟨fun z => bad k0 ?_ ?_ ?_ ?_ ?_, fun z101 => ⟨fun z => bad k0 ?_ ?_ ?_ ?_ ?_, fun z102 => ⟨fun z => ?_, fun z103 => ⟨fun z => ?_, fun z104 => ⟨fun z => bad k0 ?_ ?_ ?_ ?_ ?_, fun z105 => ⟨fun z => bad k0 ?_ ?_ ?_ ?_ ?_, fun z106 => ⟨fun z => bad k0 ?_ ?_ ?_ ?_ ?_, fun z107 => ⟨fun z => bad k0 ?_ ?_ ?_ ?_ ?_, fun z108 => ⟨fun z => ?_, fun z109 => ⟨fun z => ?_, fun z110 => bad k0 ?_ ?_ ?_ ?_ ?_⟩⟩⟩⟩⟩⟩⟩⟩⟩⟩⟩
      · have k1 := (e 100 (by decide)).mp z
        rw [if_pos k1] at es
        exact c_fact2 hB r s (fun h1 f1 r1 s1 => ⟨r1.sh, nx h1 f1 k0 (by rw [es]; exact lift_R r1 s1)⟩)
      case _ => have := (e 101 (by decide)).mp z; omega
      case _ => have := (e 101 (by decide)).mp z; omega
      case _ => have := (e 101 (by decide)).mp z; omega
      case _ => have := (e 101 (by decide)).mp z; omega
      case _ => have := (e 101 (by decide)).mp z; omega
      case _ => have := (e 102 (by decide)).mp z; omega
      case _ => have := (e 102 (by decide)).mp z; omega
      case _ => have := (e 102 (by decide)).mp z; omega
      case _ => have := (e 102 (by decide)).mp z; omega
      case _ => have := (e 102 (by decide)).mp z; omega
      · have k1 := (e 103 (by decide)).mp z
        rw [if_neg (by omega), if_pos k1] at es
        exact c_goes2 (b := BR.length) (e := (BR ++ goB B n F pg a (.ok (a, sf, cs, rs))).length) (BR' := BR ++ goB B n F pg a (.ok (a, sf, cs, rs))) hB r s (fun h1 f1 r1 s1 => ⟨r1.sh, nx h1 f1 k0 (by rw [es]; exact lift_R r1 s1)⟩)
      · have k1 := (e 104 (by decide)).mp z
        rw [if_neg (by omega), if_neg (by omega), if_pos k1] at es
        exact c_page2 hB r s (fun h1 f1 r1 s1 => ⟨r1.sh, nx h1 f1 k0 (by rw [es]; exact lift_R r1 s1)⟩)
      case _ => have := (e 105 (by decide)).mp z; omega
      case _ => have := (e 105 (by decide)).mp z; omega
      case _ => have := (e 105 (by decide)).mp z; omega
      case _ => have := (e 105 (by decide)).mp z; omega
      case _ => have := (e 105 (by decide)).mp z; omega
      case _ => have := (e 106 (by decide)).mp z; omega
      case _ => have := (e 106 (by decide)).mp z; omega
      case _ => have := (e 106 (by decide)).mp z; omega
      case _ => have := (e 106 (by decide)).mp z; omega
      case _ => have := (e 106 (by decide)).mp z; omega
      case _ => have := (e 107 (by decide)).mp z; omega
      case _ => have := (e 107 (by decide)).mp z; omega
      case _ => have := (e 107 (by decide)).mp z; omega
      case _ => have := (e 107 (by decide)).mp z; omega
      case _ => have := (e 107 (by decide)).mp z; omega
      case _ => have := (e 108 (by decide)).mp z; omega
      case _ => have := (e 108 (by decide)).mp z; omega
      case _ => have := (e 108 (by decide)).mp z; omega
      case _ => have := (e 108 (by decide)).mp z; omega
      case _ => have := (e 108 (by decide)).mp z; omega
      · have k1 := (e 109 (by decide)).mp z
        rw [if_neg (by omega), if_neg (by omega), if_neg (by omega), if_pos k1] at es
        refine c_slips hB r s (fun er h1 em f1 r1 => ⟨r1.sh, nx h1 f1.si k0 ?_⟩) (fun c h1 em f1 r1 s1 => ⟨r1.sh, nx h1 ⟨f1.mono (by intro a ha; simp at ha ⊢; omega) (by simp), fun _ _ => ⟨⟨pg, s1.2.2.2.pg6.2, s1.2.2.2.pg6.1⟩, s1.1.2.2.2.2.2.1⟩⟩ k0 ?_⟩)
        · rw [es, em]
          have : slS (pS B n) (vS B n) a (.error er) = .error er := by unfold slS; split <;> rfl
          rw [this]
          exact r1
        · rw [es, em]
          exact lift_R r1 (fun _ _ => s1)
      · have k1 := (e 110 (by decide)).mp z
        rw [if_neg (by omega), if_neg (by omega), if_neg (by omega), if_neg (by omega), if_pos k1] at es
        refine c_seed hB r s (fun er h1 em f1 r1 => ⟨r1.sh, nx h1 f1.si k0 ?_⟩) (fun c h1 em f1 r1 s1 => ⟨r1.sh, nx h1 ⟨f1.mono (by intro a ha; simp at ha ⊢; omega) (by simp), fun _ _ => ⟨⟨pg, s1.2.2.2.pg6.2, s1.2.2.2.pg6.1⟩, s1.1.2.2.2.2.2.1⟩⟩ k0 ?_⟩)
        · rw [es, em]
          exact r1
        · rw [es, em]
          exact ⟨r1, s1⟩
      · exact fun q => z100 ((e 100 (by decide)).mpr q)
      · exact fun q => z103 ((e 103 (by decide)).mpr q)
      · exact fun q => z104 ((e 104 (by decide)).mpr q)
      · exact fun q => z109 ((e 109 (by decide)).mpr q)
      · exact fun q => z110 ((e 110 (by decide)).mpr q)
theorem sh_R68 {v : Nat} (s : Sh h) : Sh (xsR h 6 8 v) := by
  have k1 : ∀ p ∈ shR, ¬ (p.1 = 6 ∧ p.2.1 = 8) := by decide
  have k2 : ∀ q ∈ shG, ¬ (q.1 = 6 ∧ q.2.1 = 8) := by decide
  obtain ⟨s1, s2, s3, s4, s5, s6, s7, s8, s9⟩ := s
  have e : ∀ a i, ¬ (a = 6 ∧ i = 8) → xR (xsR h 6 8 v) a i = xR h a i := fun a i q => by rw [xR_s, if_neg q]
  refine ⟨s1, s2, fun p hp => ?_, ?_, fun q hq => ?_, fun q hq q' hq' z => ?_, s7, s8, s9⟩
  · rw [e _ _ (k1 p hp)]; exact s3 p hp
  · rw [e 34 0 (by decide), e 4 4 (by decide), e 4 5 (by decide)]; exact s4
  · rw [e _ _ (k2 q hq)]; exact s5 q hq
  · rw [e _ _ (k2 q hq), e _ _ (k2 q' hq')] at z; exact s6 q hq q' hq' z
theorem c_tellAll {pg : Nat} {K : XH → Prop} (hB : ∀ i, B i < 256) (hs : Sh h) (hit : it = 14 ∨ it = 24) (T : cTk B n h) (hn : n ≤ 2000) (hpg : pg ≤ 6) (e66 : xI h 6 6 = nI pg) (hmo : ∀ f, f < 8 → ∃ m, m ≤ 3 ∧ xI h (it + 1) f = nI m) (k : ∀ h1, Lx (SI it) [12, 13] (xsR h 6 8 it) h1 → WK it h1 → tR2 it B n (txL B n 401 (co0, stZ0 pg)) h1 → K h1) : ClV 21 [.ref 6, .ref it] h K := by
  have hs0 := sh_R68 (v := it) hs
  have T0 : cTk B n (xsR h 6 8 it) := T
  have e66' : xI (xsR h 6 8 it) 6 6 = nI pg := e66
  have hmo' : ∀ f, f < 8 → ∃ m, m ≤ 3 ∧ xI (xsR h 6 8 it) (it + 1) f = nI m := hmo
  have eR : xR (xsR h 6 8 it) 6 8 = it := by rw [xR_s, if_pos ⟨rfl, rfl⟩]
  refine B_21_0 hs hit ?_
  generalize xsR h 6 8 it = hz at hs0 T0 e66' hmo' eR k ⊢
  refine B_21_5 hs0 hit (B_22_0 hs0 hit ?_)
  have f1 : Fx (SI it) hz (xsI (xsI (xsI (xsI (xsI (xsI (xsI (xsI (xsI hz it 0 0) it 1 0) it 2 0) it 3 0) it 4 0) it 5 0) it 6 1) it 7 0) it 8 1) := ((((((((Fx.rf.set (by simp)).set (by simp)).set (by simp)).set (by simp)).set (by simp)).set (by simp)).set (by simp)).set (by simp)).set (by simp)
  have q0 : xI (xsI (xsI (xsI (xsI (xsI (xsI (xsI (xsI (xsI hz it 0 0) it 1 0) it 2 0) it 3 0) it 4 0) it 5 0) it 6 1) it 7 0) it 8 1) it = up (up (up (up (up (up (up (up (up (xI hz it) 0 0) 1 0) 2 0) 3 0) 4 0) 5 0) 6 1) 7 0) 8 1 := by
    rw [xI_s, xI_s, xI_s, xI_s, xI_s, xI_s, xI_s, xI_s, xI_s]
  have ot : ∀ c, c ≠ it → xI (xsI (xsI (xsI (xsI (xsI (xsI (xsI (xsI (xsI hz it 0 0) it 1 0) it 2 0) it 3 0) it 4 0) it 5 0) it 6 1) it 7 0) it 8 1) c = xI hz c := fun c hc => by rw [xI_n hc, xI_n hc, xI_n hc, xI_n hc, xI_n hc, xI_n hc, xI_n hc, xI_n hc, xI_n hc]
  generalize xsI (xsI (xsI (xsI (xsI (xsI (xsI (xsI (xsI hz it 0 0) it 1 0) it 2 0) it 3 0) it 4 0) it 5 0) it 6 1) it 7 0) it 8 1 = h1 at f1 q0 ot ⊢
  have s1 := f1.sh hs0 (by simp; omega)
  have aL : ∀ (hx : XH), Sh hx → ∀ c l, (it + c, 1) ∈ shK → (it + c, l) ∈ shN → Ar hx (it + c) l := fun hx sx c l a b => ⟨sx.1 _ a, sx.2.1 _ b, by omega⟩
  have m6 : (it + 6, 1) ∈ shK ∧ (it + 6, 6) ∈ shN := by rcases hit with q | q <;> subst q <;> decide
  have m7 : (it + 7, 1) ∈ shK ∧ (it + 7, 6) ∈ shN := by rcases hit with q | q <;> subst q <;> decide
  have m4 : (it + 4, 1) ∈ shK ∧ (it + 4, 8) ∈ shN := by rcases hit with q | q <;> subst q <;> decide
  refine c_fill s1 (aL h1 s1 6 6 m6.1 m6.2) (by decide) (by omega) (fun h2 f2 e2 => ?_)
  have s2 := f2.sh s1 (by simp)
  refine ⟨s2, c_fill s2 (aL h2 s2 7 6 m7.1 m7.2) (by decide) (by omega) (fun h3 f3 e3 => ?_)⟩
  have s3 := f3.sh s2 (by simp)
  refine ⟨s3, c_fill s3 (aL h3 s3 4 8 m4.1 m4.2) (by decide) (by omega) (fun h4 f4 e4 => ?_)⟩
  have s4 := f4.sh s3 (by simp)
  refine ⟨s4, rfl, s4, ?_⟩
  have g4 : Fx (SI it) hz h4 := f1.tr (((f2.mono (by simp)).tr (f3.mono (by simp))).tr (f4.mono (by simp)))
  have F5 : Fx (SI it) hz (xsI (xsI (xsI (xsI (xsI h4 6 1 0) 6 0 (-1)) 6 2 0) 6 3 (-1)) 6 5 0) := ((((g4.set (by simp)).set (by simp)).set (by simp)).set (by simp)).set (by simp)
  have i6 : xI (xsI (xsI (xsI (xsI (xsI h4 6 1 0) 6 0 (-1)) 6 2 0) 6 3 (-1)) 6 5 0) 6 = up (up (up (up (up (xI h4 6) 1 0) 0 (-1)) 2 0) 3 (-1)) 5 0 := by rw [xI_s, xI_s, xI_s, xI_s, xI_s]
  have o6 : ∀ c, c ≠ 6 → xI (xsI (xsI (xsI (xsI (xsI h4 6 1 0) 6 0 (-1)) 6 2 0) 6 3 (-1)) 6 5 0) c = xI h4 c := fun c hc => by rw [xI_n hc, xI_n hc, xI_n hc, xI_n hc, xI_n hc]
  generalize xsI (xsI (xsI (xsI (xsI h4 6 1 0) 6 0 (-1)) 6 2 0) 6 3 (-1)) 6 5 0 = h5 at F5 i6 o6 ⊢
  have s5 := F5.sh hs0 (by simp; omega)
  have c6 : xI h4 6 = xI hz 6 := by rw [f4.at (fun q => by have := List.mem_singleton.mp q; omega), f3.at (fun q => by have := List.mem_singleton.mp q; omega), f2.at (fun q => by have := List.mem_singleton.mp q; omega), ot 6 (by omega)]
  have cit : xI h4 it = up (up (up (up (up (up (up (up (up (xI hz it) 0 0) 1 0) 2 0) 3 0) 4 0) 5 0) 6 1) 7 0) 8 1 := by rw [f4.at (by simp), f3.at (by simp), f2.at (by simp), q0]
  have d6 : xI h4 (it + 6) = filI 0 6 (xI h1 (it + 6)) := by rw [f4.at (by simp), f3.at (by simp), e2]
  have d7 : xI h4 (it + 7) = filI 0 6 (xI h2 (it + 7)) := by rw [f4.at (by simp), e3]
  have d1 : xI h4 (it + 1) = xI hz (it + 1) := by rw [f4.at (by simp), f3.at (by simp), f2.at (by simp), ot _ (by omega)]
  have cb : CB it B n h5 := by
    refine ⟨s5, hit, by rw [F5.1]; exact eR, fun j hj => ?_, hn⟩
    unfold cT1
    rw [o6 8 (by decide), o6 9 (by decide), F5.2.1, g4.at (a := 8) (by simp; omega), g4.at (a := 9) (by simp; omega)]
    exact T0 j hj
  have r5 : RC it B n (.ok co0) h5 := by
    refine ⟨cb, ?_⟩
    show xI h5 6 1 = nI 0 ∧ _
    rw [i6, o6 it (by omega), cit]
    refine ⟨rfl, rfl, rfl, ⟨by decide, fun i hi => absurd hi (by omega)⟩, ?_, by decide, rfl, fun i hi => absurd hi (by simp)⟩
    show xI h5 6 2 = nI 0
    rw [i6]
    rfl
  have sr : sR it (stZ0 pg) h5 := by
    refine ⟨?_, ?_, ?_, ?_⟩
    · unfold fR
      rw [o6 it (by omega), o6 (it + 1) (by omega), o6 (it + 2) (by omega), o6 (it + 3) (by omega), cit, d1]
      exact ⟨Nat.zero_le 8, rfl, rfl, rfl, rfl, hmo', fun f hf => absurd hf (by simp [stZ0])⟩
    · unfold gR
      rw [o6 it (by omega), o6 (it + 6) (by omega), o6 (it + 5) (by omega), o6 (it + 8) (by omega), cit, d6]
      refine ⟨Nat.zero_le 6, rfl, fun p _ hp => ?_, fun p hp => absurd hp (by simp [stZ0])⟩
      unfold filI
      rw [if_pos hp]
      rfl
    · intro f hf
      rw [o6 (it + 4) (by omega), e4]
      unfold filI
      rw [if_pos hf]
      rfl
    · unfold oR
      rw [o6 it (by omega), o6 (it + 7) (by omega), i6, cit, d7, c6]
      refine ⟨rfl, show 0 < 10000 by decide, rfl, show 0 < 10000 by decide, e66', hpg, rfl, fun p hp => ?_⟩
      unfold filI
      rw [if_pos hp]
      rfl
  exact l_all (h0 := hz) hB (fun h6 f6 t6 => ⟨rfl, k h6 f6.1 (f6.2 hit ⟨⟨pg, hpg, e66'⟩, hmo'⟩) t6⟩) 401 (co0, stZ0 pg) h5 (by decide) ⟨F5.lx, fun _ w => w.c (by rw [i6, c6]; rfl) (by rw [o6 (it + 1) (by omega), d1])⟩ ⟨r5, sr⟩ rfl
end CAL

/-! READING: claims and pages of the one side -/
theorem pgA_l {G : List Pg} {x : Pg} {p : Nat} (hp : p < G.length) : pgA (G ++ [x]) p = pgA G p := by
  unfold pgA
  rw [List.getD_eq_getElem?_getD, List.getElem?_append_left hp, ← List.getD_eq_getElem?_getD]
theorem pgA_r {G : List Pg} {x : Pg} : pgA (G ++ [x]) G.length = x := by
  unfold pgA
  rw [List.getD_eq_getElem?_getD, List.getElem?_append_right (Nat.le_refl _), Nat.sub_self]
  rfl
theorem cmA_l {l : List Cm} {x : Cm} {c : Nat} (hc : c < l.length) : cmA (l ++ [x]) c = cmA l c := by
  unfold cmA
  rw [List.getD_eq_getElem?_getD, List.getElem?_append_left hc, ← List.getD_eq_getElem?_getD]
theorem cmA_r {l : List Cm} {x : Cm} : cmA (l ++ [x]) l.length = x := by
  unfold cmA
  rw [List.getD_eq_getElem?_getD, List.getElem?_append_right (Nat.le_refl _), Nat.sub_self]
  rfl
theorem ap1 {α : Type} {l : List α} {x : α} : (l ++ [x]).length = l.length + 1 := by rw [List.length_append]; rfl
section PGS
variable (k p v : Nat → Nat) (g : Nat)
def shS (m : Md) : Md := match m with
  | .error e => .error e
  | .ok (a, sf, cs, rs) => if k a = 105 ∨ k a = 106 ∨ k a = 107 then tkS k p (k a) (.ok (a, sf, cs, rs)) else .error (1, p a)
def cmL : Nat → Md → List Cm → Md × List Cm
  | 0, m, l => (m, l)
  | f + 1, m, l => match m with
    | .error e => (.error e, l)
    | .ok (a, sf, cs, rs) => if k a = 108 then (if l.length < 6 then cmL f (cmS k p v g (tkS k p 108 (.ok (a, sf, cs, rs)))) (l ++ [cmB k p v g (tkS k p 108 (.ok (a, sf, cs, rs)))]) else (.error (2, p a), l)) else (.ok (a, sf, cs, rs), l)
end PGS
def shO (k : Nat) : Nat := if k = 105 then 0 else if k = 106 then 1 else 2
section CPG
variable {it : Nat} {B : Nat → Nat} {n : Nat} {h h0 : XH} {m : Md} {Q : Value → XH → Prop} {F : List Fa} {G : List Pg} {LW : List Lw} {BR : List Br} {sl sd pg : Nat}
theorem RC.fr {h1 : XH} (r : RC it B n m h) (hs : Sh h1) (eR : xR h1 = xR h) (e8 : xI h1 8 = xI h 8) (e9 : xI h1 9 = xI h 9) (eL : xL h1 10 = xL h 10) (e6 : ∀ j, j ∈ [0, 1, 2, 3, 5] → xI h1 6 j = xI h 6 j) (e7 : xI h1 it 7 = xI h it 7) (e90 : xI h1 (it + 9) = xI h (it + 9)) : RC it B n m h1 := by
  have cb : CB it B n h1 := by
    obtain ⟨b1, b2, b3, b4, b5⟩ := r.1
    refine ⟨hs, b2, by rw [eR]; exact b3, fun i hi => ?_, b5⟩
    unfold cT1
    rw [e8, e9, eL]
    exact b4 i hi
  match m, r with
  | .error e, r =>
    obtain ⟨a1, a2, a3, a4, a5, ⟨b, a6, a7⟩, l, a8, a9⟩ := r.2
    exact ⟨cb, a1, a2, a3, by rw [e6 1 (by decide)]; exact a4, by rw [e6 0 (by decide)]; exact a5, ⟨b, a6, by rw [e6 5 (by decide)]; exact a7⟩, ⟨l, a8, by rw [e7]; exact a9⟩⟩
  | .ok (a, sf, cs, rs), r =>
    obtain ⟨a1, a0, a2, a3, a4, a5, a6, a7⟩ := r.2
    exact ⟨cb, by rw [e6 1 (by decide)]; exact a1, by rw [e6 0 (by decide)]; exact a0, by rw [e6 5 (by decide)]; exact a2, a3, by unfold sfR; rw [e6 2 (by decide), e6 3 (by decide)]; exact a4, a5, by rw [e7]; exact a6, fun i hi => by rw [e90]; exact a7 i hi⟩
theorem c_claim2 {G0 : List Pg} {nm : List Nat} {sh : Nat} {cls : List Cm} {a : Nat} {sf : Option (Nat × Nat)} {cs rs : List Cd} {K : XH → Prop} (hB : ∀ i, B i < 256) (r : RC it B n (.ok (a, sf, cs, rs)) h) (s : sR it (F, G0 ++ [(nm, sh, cls)], LW, BR, sl, sd, G0.length) h) (hc : cls.length ≤ 5)
    (k : ∀ h1, LI it h h1 → RC it B n (cmS (kS B n) (pS B n) (vS B n) G0.length (.ok (a, sf, cs, rs))) h1 → xI h1 6 6 = nI G0.length → (∀ c, cmS (kS B n) (pS B n) (vS B n) G0.length (.ok (a, sf, cs, rs)) = .ok c → sR it (F, G0 ++ [(nm, sh, cls ++ [cmB (kS B n) (pS B n) (vS B n) G0.length (.ok (a, sf, cs, rs))])], LW, BR, sl, sd, G0.length) h1) → K h1) : ClV 42 [.ref 6] h K := by
  have hit := r.i2
  obtain ⟨s1, s2, s3, s4⟩ := s
  obtain ⟨g1, g2, g3, g4⟩ := s2
  obtain ⟨o1, o2, o3, o4, o5, o6, o7, o8⟩ := s4
  have o5 : xI h 6 6 = nI G0.length := o5
  have g1 : (G0 ++ [(nm, sh, cls)]).length ≤ 6 := g1
  rw [ap1] at g1
  have gl := g4 G0.length (by show G0.length < (G0 ++ [(nm, sh, cls)]).length; rw [ap1]; omega)
  have ea : pgA (F, G0 ++ [(nm, sh, cls)], LW, BR, sl, sd, G0.length).2.1 G0.length = (nm, sh, cls) := pgA_r
  rw [ea] at gl
  obtain ⟨b1, b2, b3, b4, b5, b6, b7, b8⟩ := gl
  have e1 : xI h 6 1 = nI 0 := r.2.1
  have e7 : xI h it 7 = nI cs.length := r.2.2.2.2.2.2.2.1
  have l5 : cs.length ≤ 512 := r.2.2.2.2.2.2.1
  have ix : nI G0.length * 6 + nI cls.length = nI (G0.length * 6 + cls.length) := by
    rw [show (6 : Int32) = nI 6 from rfl, pk_mul, nI_add]
  have i66 : xI (xsI h (it + 8) (G0.length * 6 + cls.length) (nI cs.length)) 6 6 = nI G0.length := by rw [xI_n (by omega)]; exact o5
  have i6 : xI (xsI h (it + 8) (G0.length * 6 + cls.length) (nI cs.length)) (it + 6) G0.length = nI cls.length := by rw [xI_n (by omega)]; exact b3
  refine B_42_0 r.sh r.i2 r.r ?_
  rw [e1, o5, tn_nI (show G0.length < 2 ^ 31 by omega), b3, ix, tn_nI (show G0.length * 6 + cls.length < 2 ^ 31 by omega), e7, i66, tn_nI (show G0.length < 2 ^ 31 by omega), i6, nI_1]
  refine ⟨fun _ => ⟨inb (by omega) (by decide), inb (by omega) (by decide), inb (by omega) (by decide), inb (by omega) (by decide), fun hx eh => ?_⟩, fun z => absurd rfl z⟩
  have rx : RC it B n (.ok (a, sf, cs, rs)) hx := by rw [eh]; exact (r.xs (by omega)).xs (by omega)
  have fx : LI it h hx := by rw [eh]; exact (LI.rf.set (by simp) (by omega) (by omega)).set (by simp) (by omega) (by omega)
  have x66 : xI hx 6 6 = nI G0.length := by rw [eh, xI_n (by omega)]; exact i66
  have sx : sR it (F, G0 ++ [(nm, sh, cls ++ [cmB (kS B n) (pS B n) (vS B n) G0.length (.ok (a, sf, cs, rs))])], LW, BR, sl, sd, G0.length) hx := by
    have c6 : xI hx (it + 6) = up (xI h (it + 6)) G0.length (nI (cls.length + 1)) := by rw [eh, xI_s, xI_n (by omega)]
    have c8 : xI hx (it + 8) = up (xI h (it + 8)) (G0.length * 6 + cls.length) (nI cs.length) := by rw [eh, xI_n (by omega), xI_s]
    have ot : ∀ c, c ≠ it + 6 → c ≠ it + 8 → xI hx c = xI h c := fun c h1 h2 => by rw [eh, xI_n h1, xI_n h2]
    have lL : xL hx = xL h := by rw [eh]; rfl
    refine ⟨?_, ?_, ?_, ?_⟩
    · unfold fR
      rw [ot it (by omega) (by omega), ot (it + 1) (by omega) (by omega), ot (it + 2) (by omega) (by omega), ot (it + 3) (by omega) (by omega), lL]
      exact s1
    · unfold gR
      show (G0 ++ [_]).length ≤ 6 ∧ _
      rw [ap1, c6, c8, ot it (by omega) (by omega), ot (it + 5) (by omega) (by omega), lL]
      refine ⟨g1, ?_, fun p h1 h2 => ?_, fun p hp => ?_⟩
      · have : (F, G0 ++ [(nm, sh, cls)], LW, BR, sl, sd, G0.length).2.1.length = G0.length + 1 := ap1
        rw [this] at g2
        exact g2
      · rw [up_ne (by omega)]
        exact g3 p (by show (G0 ++ [(nm, sh, cls)]).length ≤ p; rw [ap1]; exact h1) h2
      · by_cases q : p = G0.length
        · subst q
          rw [show pgA (F, G0 ++ [(nm, sh, cls ++ [cmB (kS B n) (pS B n) (vS B n) G0.length (.ok (a, sf, cs, rs))])], LW, BR, sl, sd, G0.length).2.1 G0.length = (nm, sh, cls ++ [cmB (kS B n) (pS B n) (vS B n) G0.length (.ok (a, sf, cs, rs))]) from pgA_r]
          rw [up_same]
          refine ⟨b1, b2, by rw [ap1], by rw [ap1]; omega, b5, b6, b7, fun c hc' => ?_⟩
          rw [ap1] at hc'
          by_cases q2 : c = cls.length
          · subst q2
            rw [up_same, cmA_r]
            exact ⟨rfl, l5⟩
          · rw [up_ne (by omega), cmA_l (by omega)]
            exact b8 c (show c < cls.length by omega)
        · have hp' : p < G0.length := by omega
          have := g4 p (by show p < (G0 ++ [(nm, sh, cls)]).length; rw [ap1]; exact hp)
          rw [show pgA (F, G0 ++ [(nm, sh, cls)], LW, BR, sl, sd, G0.length).2.1 p = pgA G0 p from pgA_l hp'] at this
          rw [show pgA (F, G0 ++ [(nm, sh, cls ++ [cmB (kS B n) (pS B n) (vS B n) G0.length (.ok (a, sf, cs, rs))])], LW, BR, sl, sd, G0.length).2.1 p = pgA G0 p from pgA_l hp']
          obtain ⟨d1, d2, d3, d4, d5, d6, d7, d8⟩ := this
          refine ⟨d1, d2, by rw [up_ne q]; exact d3, d4, d5, d6, d7, fun c hc' => ?_⟩
          rw [up_ne (by omega)]
          exact d8 c hc'
    · unfold lR
      rw [ot (it + 4) (by omega) (by omega)]
      exact s3
    · unfold oR
      rw [ot it (by omega) (by omega), ot 6 (by omega) (by omega), ot (it + 7) (by omega) (by omega)]
      exact ⟨o1, o2, o3, o4, o5, o6, o7, o8⟩
  clear eh
  exact l_claim hB (by omega) rx x66 (fun h1 f1 r1 => ⟨rfl, k h1 (fx.tr f1.si) r1 (by rw [f1.2.1 6 (by decide)]; exact x66) (fun c _ => sx.ew hit f1)⟩)
theorem c_claimE {e : Nat × Nat} {K : XH → Prop} (r : RC it B n (.error e) h) (k : K h) : ClV 42 [.ref 6] h K := by
  have e4 : xI h 6 1 = nI e.1 := r.2.2.2.2.1
  have e1 : 1 ≤ e.1 := r.2.1
  have e2 : e.1 < 20 := r.2.2.1
  have ne : ¬ xI h 6 1 = (0 : Int32) := fun q => by rw [e4] at q; have := (nI_eq (a := e.1) (b := 0) (by omega) (by decide)).mp q; omega
  exact B_42_0 r.sh r.i2 r.r ⟨fun z => absurd z ne, fun _ => ⟨rfl, k⟩⟩
theorem c_shadeE {e : Nat × Nat} {K : XH → Prop} (r : RC it B n (.error e) h) (e66 : xI h 6 6 = nI pg) (hpg : pg < 6) (k : ∀ h1, LI it h h1 → RC it B n (.error e) h1 → xI h1 6 6 = nI pg → K h1) : ClV 41 [.ref 6] h K := by
  have hit := r.i2
  obtain ⟨a1, a2, a3, a4, a5, ⟨b, a6, a7⟩, l, a8, a9⟩ := r.2
  have rx : ∀ x : Int32, RC it B n (.error e) (xsI h (it + 5) pg x) := fun x => r.xs (by omega)
  have fx : ∀ x : Int32, LI it h (xsI h (it + 5) pg x) := fun x => LI.rf.set (by simp) (by omega) (by omega)
  have x6 : ∀ x : Int32, xI (xsI h (it + 5) pg x) 6 6 = nI pg := fun x => by rw [xI_n (by omega)]; exact e66
  have lt : ∀ x y : Int32, ClI 26 [.ref 6, .int y] (xsI h (it + 5) pg x) (fun v h1 => Sh h1 ∧ xR h1 6 8 = it ∧ (Value.null = Value.null ∧ K h1)) := fun x y => c_takeE (rx x) ⟨(rx x).sh, (rx x).r, rfl, k _ (fx x) (rx x) (x6 x)⟩
  have lb : ∀ x : Int32, ClV 25 [.ref 6, .int 1] (xsI h (it + 5) pg x) (fun h1 => Sh h1 ∧ xR h1 6 8 = it ∧ (Value.null = Value.null ∧ K h1)) := fun x => c_blame (x := 1) (by decide) (rx x) (fun h1 f1 r1 => ⟨r1.sh, r1.r, rfl, k _ ((fx x).tr f1.w.si) r1 (by rw [f1.2.1 6 (by decide)]; exact x6 x)⟩)
  have ip : InB (nI pg) 6 := inb (by omega) (by decide)
  refine B_41_0 r.sh r.i2 r.r ?_
  rw [a7, e66, tn_nI (show pg < 2 ^ 31 by omega)]
  refine ⟨inb (by omega) (by decide), fun _ => ⟨fun _ => ⟨ip, fun _ => lt _ _, fun _ => ⟨fun _ => lt _ _, fun _ => ⟨fun _ => lb _, fun _ => lt _ _⟩⟩⟩, fun _ => ⟨ip, fun _ => lt _ _, fun _ => ⟨fun _ => lt _ _, fun _ => ⟨fun _ => lb _, fun _ => lt _ _⟩⟩⟩⟩, fun _ => ⟨ip, fun _ => lt _ _, fun _ => ⟨fun _ => lt _ _, fun _ => ⟨fun _ => lb _, fun _ => lt _ _⟩⟩⟩⟩
theorem c_shade2 {a : Nat} {sf : Option (Nat × Nat)} {cs rs : List Cd} {K : XH → Prop} (hB : ∀ i, B i < 256) (r : RC it B n (.ok (a, sf, cs, rs)) h) (e66 : xI h 6 6 = nI pg) (hpg : pg < 6) (k : ∀ h1, EX it (xsI h (it + 5) pg (nI (shO (kS B n a)))) h1 → RC it B n (shS (kS B n) (pS B n) (.ok (a, sf, cs, rs))) h1 → K h1) : ClV 41 [.ref 6] h K := by
  have hit := r.i2
  have k9 := r.k
  have e5 : xI h 6 5 = nI a := r.2.2.2.1
  have kl := kS_lt (n := n) hB a
  have e : ∀ y, y < 256 → (nI (kS B n a) = nI y ↔ kS B n a = y) := fun y hy => nI_eq (by omega) (by omega)
  have rx : ∀ x : Int32, RC it B n (.ok (a, sf, cs, rs)) (xsI h (it + 5) pg x) := fun x => r.xs (by omega)
  have es : shS (kS B n) (pS B n) (.ok (a, sf, cs, rs)) = if kS B n a = 105 ∨ kS B n a = 106 ∨ kS B n a = 107 then tkS (kS B n) (pS B n) (kS B n a) (.ok (a, sf, cs, rs)) else .error (1, pS B n a) := rfl
  have lt : ∀ x : Int32, x = nI (shO (kS B n a)) → (kS B n a = 105 ∨ kS B n a = 106 ∨ kS B n a = 107) → ClI 26 [.ref 6, .int (nI (kS B n a))] (xsI h (it + 5) pg x) (fun v h1 => Sh h1 ∧ xR h1 6 8 = it ∧ (Value.null = Value.null ∧ K h1)) := by
    intro x hx q
    subst hx
    rw [if_pos q] at es
    exact c_takeM hB kl (by omega) (rx _) (fun h1 v f1 r1 => ⟨r1.sh, r1.r, rfl, k h1 f1 (by rw [es]; exact r1)⟩)
  have lb : ∀ x : Int32, x = nI (shO (kS B n a)) → ¬ (kS B n a = 105 ∨ kS B n a = 106 ∨ kS B n a = 107) → ClV 25 [.ref 6, .int 1] (xsI h (it + 5) pg x) (fun h1 => Sh h1 ∧ xR h1 6 8 = it ∧ (Value.null = Value.null ∧ K h1)) := by
    intro x hx q
    subst hx
    rw [if_neg q] at es
    exact c_blame (x := 1) (by decide) (rx _) (fun h1 f1 r1 => ⟨r1.sh, r1.r, rfl, k h1 f1 (by rw [es]; exact r1)⟩)
  have ip : InB (nI pg) 6 := inb (by omega) (by decide)
  refine B_41_0 r.sh r.i2 r.r ?_
  rw [e5, tn_nI (show a < 2 ^ 31 by omega), k9.1, e66, tn_nI (show pg < 2 ^ 31 by omega)]
  refine ⟨inb (by omega) (by decide), fun z5 => ⟨fun z6 => ⟨ip, fun z => absurd z z5, fun _ => ⟨fun z => absurd z z6, fun _ => ⟨fun z7 => ?_, fun z7 => ?_⟩⟩⟩, fun z6 => ⟨ip, fun z => absurd z z5, fun _ => ⟨fun _ => ?_, fun z => absurd z z6⟩⟩⟩, fun z5 => ⟨ip, fun _ => ?_, fun z => absurd z z5⟩⟩
  · exact lb 2 (by unfold shO; rw [if_neg (fun q => z5 ((e 105 (by decide)).mpr q)), if_neg (fun q => z6 ((e 106 (by decide)).mpr q))]; rfl) (fun q => q.elim (fun q => z5 ((e 105 (by decide)).mpr q)) (fun q => q.elim (fun q => z6 ((e 106 (by decide)).mpr q)) (fun q => z7 ((e 107 (by decide)).mpr q))))
  · exact lt 2 (by unfold shO; rw [if_neg (fun q => z5 ((e 105 (by decide)).mpr q)), if_neg (fun q => z6 ((e 106 (by decide)).mpr q))]; rfl) (Or.inr (Or.inr ((e 107 (by decide)).mp (Classical.not_not.mp z7))))
  · have q6 := (e 106 (by decide)).mp (Classical.not_not.mp z6)
    exact lt 1 (by unfold shO; rw [if_neg (fun q => z5 ((e 105 (by decide)).mpr q)), if_pos q6]; rfl) (Or.inr (Or.inl q6))
  · have q5 := (e 105 (by decide)).mp (Classical.not_not.mp z5)
    exact lt 0 (by unfold shO; rw [if_pos q5]; rfl) (Or.inl q5)
theorem l_p169e {e : Nat × Nat} (r : RC it B n (.error e) h) (kk : Q .null h) : Ev 40 169 [.ref 6, .null, .null] [] h Q := B_40_169 r.sh r.i2 r.r (c_takeE r ⟨r.sh, r.r, kk⟩)
theorem l_p103e {e : Nat × Nat} {x2 : Int32} (r : RC it B n (.error e) h) (kk : Q .null h) : Ev 40 103 [.ref 6, .null, .int x2] [] h Q := by
  have e4 : xI h 6 1 = nI e.1 := r.2.2.2.2.1
  have e1 : 1 ≤ e.1 := r.2.1
  have e2 : e.1 < 20 := r.2.2.1
  have ne : ¬ xI h 6 1 = (0 : Int32) := fun q => by rw [e4] at q; have := (nI_eq (a := e.1) (b := 0) (by omega) (by decide)).mp q; omega
  exact B_40_103 r.sh r.i2 r.r ⟨fun _ => l_p169e r kk, fun _ => ⟨fun _ => l_p169e r kk, fun z => absurd ne z⟩⟩
theorem l_p93e {e : Nat × Nat} (r : RC it B n (.error e) h) (e66 : xI h 6 6 = nI pg) (hpg : pg < 6) (kk : ∀ h1, LI it h h1 → RC it B n (.error e) h1 → Q .null h1) : Ev 40 93 [.ref 6, .null, .null] [] h Q :=
  B_40_93 r.sh r.i2 r.r (c_shadeE r e66 hpg (fun h1 f1 r1 e1 => ⟨r1.sh, r1.r, c_claimE r1 ⟨r1.sh, r1.r, l_p103e r1 (kk h1 f1 r1)⟩⟩))
/-- further claims of a page -/
theorem l_more {G0 : List Pg} {nm : List Nat} {sh : Nat} {M : Md × List Cm} (hB : ∀ i, B i < 256)
    (kk : ∀ h1, LI it h0 h1 → RC it B n (tkS (kS B n) (pS B n) 59 M.1) h1 → (∀ c, tkS (kS B n) (pS B n) 59 M.1 = .ok c → sR it (F, G0 ++ [(nm, sh, M.2)], LW, BR, sl, sd, G0.length) h1) → Q .null h1) :
    ∀ (f : Nat) (m : Md) (cls : List Cm) (h : XH), LI it h0 h → cls.length + f = 7 → RC it B n m h → (∀ c, m = .ok c → sR it (F, G0 ++ [(nm, sh, cls)], LW, BR, sl, sd, G0.length) h) → 1 ≤ cls.length → M = cmL (kS B n) (pS B n) (vS B n) G0.length f m cls → Ev 40 103 [.ref 6, .null, .int (nI (6 - f))] [] h Q := by
  have err : ∀ (e : Nat × Nat) (cls : List Cm) (h : XH), LI it h0 h → RC it B n (.error e) h → M = (.error e, cls) → Q .null h := by
    intro e cls h fx r eM
    subst eM
    exact kk h fx r (fun c hc => by cases hc)
  have last : ∀ (m : Md) (cls : List Cm) (h : XH), LI it h0 h → RC it B n m h → (∀ c, m = .ok c → sR it (F, G0 ++ [(nm, sh, cls)], LW, BR, sl, sd, G0.length) h) → M = (m, cls) → Ev 40 169 [.ref 6, .null, .null] [] h Q := by
    intro m cls h fx r s eM
    subst eM
    refine B_40_169 r.sh r.i2 r.r (c_takeM hB (by decide) (by decide) r (fun h1 v f1 r1 => ⟨r1.sh, r1.r, kk h1 (fx.tr f1.w.si) r1 (fun c hc => ?_)⟩))
    obtain ⟨a1, sf1, cs1, rs1, q1, _⟩ := tk_ok hc
    exact (s _ q1).ew r.i2 f1.w
  intro f
  induction f with
  | zero =>
    intro m cls h fx hf r s h1 eM
    exact B_40_103 r.sh r.i2 r.r ⟨fun _ => last m cls h fx r s eM, fun z => absurd (nI_le (a := 6) (b := 6) (by decide) (by decide)) z⟩
  | succ f ih =>
    intro m cls h fx hf r s h1 eM
    refine B_40_103 r.sh r.i2 r.r ⟨fun z => absurd z (nI_ge (a := 6 - (f + 1)) (b := 6) (by omega) (by decide)), fun _ => ?_⟩
    match m, r, s, eM with
    | .error e, r, s, eM =>
      have e4 : xI h 6 1 = nI e.1 := r.2.2.2.2.1
      have e1 : 1 ≤ e.1 := r.2.1
      have e2 : e.1 < 20 := r.2.2.1
      have ne : ¬ xI h 6 1 = (0 : Int32) := fun q => by rw [e4] at q; have := (nI_eq (a := e.1) (b := 0) (by omega) (by decide)).mp q; omega
      exact ⟨fun _ => l_p169e r (err e cls h fx r eM), fun z => absurd ne z⟩
    | .ok (a, sf, cs, rs), r, s, eM =>
      have hit := r.i2
      have k9 := r.k
      have e1 : xI h 6 1 = nI 0 := r.2.1
      have e5 : xI h 6 5 = nI a := r.2.2.2.1
      have kl := kS_lt (n := n) hB a
      have sx := s _ rfl
      have e66 : xI h 6 6 = nI G0.length := sx.2.2.2.pg6.1
      have g1 : (G0 ++ [(nm, sh, cls)]).length ≤ 6 := sx.2.1.1
      rw [ap1] at g1
      have gl := sx.2.1.2.2.2 G0.length (by show G0.length < (G0 ++ [(nm, sh, cls)]).length; rw [ap1]; omega)
      rw [show pgA (F, G0 ++ [(nm, sh, cls)], LW, BR, sl, sd, G0.length).2.1 G0.length = (nm, sh, cls) from pgA_r] at gl
      have b3 : xI h (it + 6) G0.length = nI cls.length := gl.2.2.1
      have eM : M = if kS B n a = 108 then (if cls.length < 6 then cmL (kS B n) (pS B n) (vS B n) G0.length f (cmS (kS B n) (pS B n) (vS B n) G0.length (tkS (kS B n) (pS B n) 108 (.ok (a, sf, cs, rs)))) (cls ++ [cmB (kS B n) (pS B n) (vS B n) G0.length (tkS (kS B n) (pS B n) 108 (.ok (a, sf, cs, rs)))]) else (.error (2, pS B n a), cls)) else (.ok (a, sf, cs, rs), cls) := eM
      rw [e1, e5, tn_nI (show a < 2 ^ 31 by omega), k9.1, e66, tn_nI (show G0.length < 2 ^ 31 by omega), b3]
      refine ⟨fun z => absurd rfl z, fun _ => ⟨inb (by omega) (by decide), fun z => ?_, fun z => ?_⟩⟩
      · rw [if_neg (fun q => z (by rw [q]; rfl))] at eM
        exact last _ cls h fx r s eM
      · have k1 : kS B n a = 108 := (nI_eq (b := 108) (by omega) (by decide)).mp (Classical.not_not.mp z)
        rw [if_pos k1] at eM
        refine ⟨inb (by omega) (by decide), fun y => ?_, fun y => ?_⟩
        · have c6 : cls.length < 6 := (nI_ltI (b := 6) (by omega) (by decide)).mp y
          rw [if_pos c6] at eM
          refine B_40_152 r.sh r.i2 r.r (c_takeM hB (by decide) (by decide) r (fun h2 v2 f2 r2 => ⟨r2.sh, r2.r, ?_⟩))
          have s2 := sx.ew hit f2.w
          match hm : tkS (kS B n) (pS B n) 108 (.ok (a, sf, cs, rs)) with
          | .error e =>
            rw [hm] at r2 eM
            refine c_claimE r2 ⟨r2.sh, r2.r, ?_⟩
            rw [nI_1, show 6 - (f + 1) + 1 = 6 - f by omega]
            exact ih (.error e) _ h2 (fx.tr f2.w.si) (by rw [ap1]; omega) r2 (fun c hc => by cases hc) (by rw [ap1]; omega) eM
          | .ok (a2, sf2, cs2, rs2) =>
            rw [hm] at r2 eM
            refine c_claim2 hB r2 s2 (by omega) (fun h3 f3 r3 e3 s3 => ⟨r3.sh, r3.r, ?_⟩)
            rw [nI_1, show 6 - (f + 1) + 1 = 6 - f by omega]
            exact ih _ _ h3 ((fx.tr f2.w.si).tr f3) (by rw [ap1]; omega) r3 s3 (by rw [ap1]; omega) eM
        · have c6 : ¬ cls.length < 6 := fun q => y (nI_lt (b := 6) q (by decide))
          rw [if_neg c6] at eM
          refine c_blame (x := 2) (by decide) r (fun h2 f2 r2 => ⟨r2.sh, r2.r, ?_⟩)
          refine B_40_152 r2.sh r2.i2 r2.r (c_takeE r2 ⟨r2.sh, r2.r, c_claimE r2 ⟨r2.sh, r2.r, l_p103e r2 (err _ cls h2 (fx.tr f2.w.si) r2 eM)⟩⟩)
end CPG

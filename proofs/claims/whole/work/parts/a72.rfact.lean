/-! READING: facts of the other side -/
def tS (s : Nat) (B : Nat → Nat) (n : Nat) (x : Tx) (h : XH) : Prop := match x with
  | .error e => RR s 0 B n (.error e) h
  | .ok (co, st) => RR s 0 B n (.ok co) h ∧ rST s co.1 co.2.1 st h
section RFA
variable {s o : Nat} {B : Nat → Nat} {n : Nat} {h h0 h1 h2 : XH} {m : Md} {a a' : Nat} {sf sf' : Option (Nat × Nat)} {cs rs : List Cd} {Q : Value → XH → Prop} {NM : List (List Nat × Nat)} {nm : List Nat} {F : List Fa} {G : List Pg} {LW : List Lw} {BR : List Br} {sl sd pg : Nat} {st : St}
theorem fH.rx {S L F' : List Nat} (x : fH s F h) (g : Rx S L F' h h1) (hS : ∀ c ∈ [79, 80, 81, 82], c ∉ S) : fH s F h1 := by
  unfold fH
  rw [g.at (hS 79 (by decide)) (by decide), g.at (hS 80 (by decide)) (by decide), g.at (hS 81 (by decide)) (by decide), g.at (hS 82 (by decide)) (by decide)]
  exact x
theorem gH.rx {S L F' : List Nat} (x : gH s G h) (g : Rx S L F' h h1) (hS : ∀ c ∈ [84, 85, 86, 87, 88, 89, 90, 91], c ∉ S) (hF : 32 ∉ F') : gH s G h1 := by
  unfold gH qR
  rw [g.at (hS 84 (by decide)) (by decide), g.at (hS 85 (by decide)) (by decide), g.at (hS 86 (by decide)) (by decide), g.at (hS 87 (by decide)) (by decide), g.at (hS 88 (by decide)) (by decide), g.at (hS 89 (by decide)) (by decide), g.at (hS 90 (by decide)) (by decide), g.at (hS 91 (by decide)) (by decide), g.f hF]
  exact x
theorem bH.rx {S L F' : List Nat} (x : bH s BR a h) (g : Rx S L F' h h1) (hS : ∀ c ∈ [98, 99, 100, 101, 102], c ∉ S) (hF : 45 ∉ F') (ha : a ≤ a') : bH s BR a' h1 := by
  obtain ⟨b1, b2, b3⟩ := x
  refine ⟨by rw [g.f hF]; exact b1, by omega, fun i hi => ?_⟩
  have := b3 i hi
  unfold brQ at this ⊢
  rw [g.at (hS 98 (by decide)) (by decide), g.at (hS 99 (by decide)) (by decide), g.at (hS 100 (by decide)) (by decide), g.at (hS 101 (by decide)) (by decide), g.at (hS 102 (by decide)) (by decide)]
  exact this
theorem lH.rx {S L F' : List Nat} (x : lH s LW h) (g : Rx S L F' h h1) (hS : ∀ c ∈ [96, 97], c ∉ S) : lH s LW h1 := by
  unfold lH
  rw [g.at (hS 96 (by decide)) (by decide), g.at (hS 97 (by decide)) (by decide)]
  exact x
theorem oH.rx {S L F' : List Nat} (x : oH s sl sd h) (g : Rx S L F' h h1) (hS : ∀ c ∈ [92, 93], c ∉ S) : oH s sl sd h1 := by
  unfold oH
  rw [g.at (hS 92 (by decide)) (by decide), g.at (hS 93 (by decide)) (by decide)]
  exact x
theorem wH.rx {S L F' : List Nat} (x : wH s F sf h) (g : Rx S L F' h h1) (hS : 83 ∉ S) (hf : sf' = none → sf = none) : wH s F sf' h1 := by
  obtain ⟨w, w1, w2, w3⟩ := x
  exact ⟨w, w1, by rw [g.at hS (by decide)]; exact w2, fun e => w3 (hf e)⟩
theorem Rx.rS {S L F' : List Nat} (g : Rx S L F' h h1) (o : othS s h h1) (hS : ∀ x ∈ S, x ∈ SAl) (hL : ∀ x ∈ L, x ∈ [77]) (hF : ∀ x ∈ F', x ∈ FAl) : Rs s h h1 := ⟨g.mono hS hL hF, o⟩
theorem l_f174 {x : Fa} {j : Nat} (r : RR s 0 B n (.ok (a, sf, cs, rs)) h) (hF : F.length < 8) (hG : G.length ≤ 6) (R : nmR F G NM) (N : nH NM h) (f1 : fH s F h) (f2 : xI h 82 (8 * s + F.length) = nI x.2.2.2) (w1 : wH s (F ++ [x]) sf h) (g1 : gH s G h) (b1 : bH s BR a h) (l1 : sf = none → lH s LW h) (o1 : oH s sl sd h) (hj : rch B n j) (kj : kS B n j = 2) (ej : nS B n j = x.1)
    (kk : ∀ h1, Rs s h h1 → RR s 0 B n (.ok (a, sf, cs, rs)) h1 → rST s a sf (F ++ [x], G, LW, BR, sl, sd, pg) h1 → Q .null h1) : Ev 188 174 [.ref 69, .int (nI (8 * s + F.length)), .int (nI j), .null, .int (nI x.2.1), .int (nI x.2.2.1)] [] h Q := by
  have s2 : s < 2 := r.1.2.1
  have e19 : xI h 69 19 = nI s := r.1.2.2.1
  have j4 := hj.1
  refine B_188_174 r.sh ?_
  rw [tn_nI (show 8 * s + F.length < 2 ^ 31 by omega)]
  have gA : Gs s [80, 81] [] h (xsI (xsI h 80 (8 * s + F.length) (nI x.2.1)) 81 (8 * s + F.length) (nI x.2.2.1)) := (Gs.rf.set (by decide) (by decide)).set (by decide) (by decide)
  have A80 : xI (xsI (xsI h 80 (8 * s + F.length) (nI x.2.1)) 81 (8 * s + F.length) (nI x.2.2.1)) 80 = up (xI h 80) (8 * s + F.length) (nI x.2.1) := by rw [xI_n (by decide), xI_s]
  have A81 : xI (xsI (xsI h 80 (8 * s + F.length) (nI x.2.1)) 81 (8 * s + F.length) (nI x.2.2.1)) 81 = up (xI h 81) (8 * s + F.length) (nI x.2.2.1) := by rw [xI_s, xI_n (by decide)]
  generalize xsI (xsI h 80 (8 * s + F.length) (nI x.2.1)) 81 (8 * s + F.length) (nI x.2.2.1) = hA at gA A80 A81 ⊢
  have rA := r.gx gA (by decide) (by decide)
  have A79 : xI hA 79 s = nI F.length := by rw [gA.at (by decide) (by decide)]; exact f1.2.1
  have N4 := R.2.2.2
  rw [gA.f (j := 19) (by decide), e19, tn_nI (show s < 2 ^ 31 by omega), A79]
  have xA : Rx [80, 81] [] [] h hA := gA.gx.rx
  refine ⟨inb (by omega) (by decide), inb (by omega) (by decide), inb s2 (by decide), c_notes (s := s) rA.sh (N.rx xA (by decide) (by decide) (by decide)) (by omega) rA.1.2.2.2.1 hj kj (by omega) (fun hB gB oB NB => ?_)⟩
  have rB := rA.rx gB (by decide) (by decide) (by decide)
  have B19 : xI hB 69 19 = nI s := rB.1.2.2.1
  have B79 : xI hB 79 s = nI F.length := by rw [gB.at (by decide) (by decide)]; exact A79
  rw [B19, tn_nI (show s < 2 ^ 31 by omega), B79, nI_1]
  have gC : Gs s [79] [] hB (xsI hB 79 s (nI (F.length + 1))) := Gs.rf.set (by decide) (by decide)
  have C79 : xI (xsI hB 79 s (nI (F.length + 1))) 79 s = nI (F.length + 1) := xI_ss
  generalize xsI hB 79 s (nI (F.length + 1)) = hC at gC C79 ⊢
  have rC := rB.gx gC (by decide) (by decide)
  have xC : Rx [79] [] [] hB hC := gC.gx.rx
  have X : Rx [78, 79, 80, 81] [77] [20] h hC := ((xA.mono (by decide) (by decide) (by decide)).tr (gB.mono (by decide) (by decide) (by decide))).tr (xC.mono (by decide) (by decide) (by decide))
  refine ⟨rB.sh, inb s2 (by decide), inb s2 (by decide), kk hC (X.rS ((gA.2.2.tr oB).tr gC.2.2) (by decide) (by decide) (by decide)) rC ⟨⟨NM ++ [(x.1, F.length)], R.fact, ?_⟩, ?_, w1.rx X (by decide) id, g1.rx X (by decide) (by decide), b1.rx X (by decide) (by decide) (Nat.le_refl _), fun e => (l1 e).rx X (by decide), o1.rx X (by decide)⟩⟩
  · rw [ej] at NB
    exact NB.rx xC (by decide) (by decide) (by decide)
  · have c80 : xI hC 80 = up (xI h 80) (8 * s + F.length) (nI x.2.1) := by rw [gC.at (by decide) (by decide), gB.at (by decide) (by decide), A80]
    have c81 : xI hC 81 = up (xI h 81) (8 * s + F.length) (nI x.2.2.1) := by rw [gC.at (by decide) (by decide), gB.at (by decide) (by decide), A81]
    have c82 : xI hC 82 = xI h 82 := X.at (by decide) (by decide)
    obtain ⟨f3, f4, f5⟩ := f1
    unfold fH
    show (F ++ [x]).length ≤ 8 ∧ _
    rw [ap1, C79, c80, c81, c82]
    refine ⟨by omega, rfl, fun f hf => ?_⟩
    by_cases q : f = F.length
    · subst q
      rw [show faA (F ++ [x], G, LW, BR, sl, sd, pg).1 F.length = x from faA_r, up_same, up_same]
      exact ⟨rfl, rfl, f2⟩
    · rw [show faA (F ++ [x], G, LW, BR, sl, sd, pg).1 f = faA F f from faA_l (by omega), up_ne (by omega), up_ne (by omega)]
      exact f5 f (show f < F.length by omega)
theorem l_f104e {e : Nat × Nat} {x1 x2 x3 x4 x5 : Int32} (r : RR s 0 B n (.error e) h) (kk : ∀ h1, Gs s SE FE h h1 → RR s 0 B n (.error e) h1 → Q .null h1) : Ev 188 104 [.ref 69, .int x1, .int x2, .int x3, .int x4, .int x5] [] h Q :=
  B_188_104 r.sh (c_must (x := 59) (by decide) (by decide) r (fun h1 g1 r1 => ⟨r1.sh, fun z => absurd z (RR.ne r1).2.1, fun _ => kk h1 g1 r1⟩))
end RFA

/-! READING, the other side: how it begins -/
theorem sx_i8 : ∀ k, k < 256 → (sx k).toInt8.toInt32 = sx k := by decide +kernel
def Ry (s : Nat) (S L F : List Nat) (h h1 : XH) : Prop := Rx S L F h h1 ∧ othS s h h1
abbrev SSt : List Nat := [71, 72, 73, 74, 79, 83, 84, 92, 93, 96, 97]
abbrev S8t : List Nat := [79, 83, 84, 92, 93, 96, 97]
abbrev FSt : List Nat := [2, 4, 10, 11, 12, 13, 15, 19, 20, 32, 39, 45, 51]
section RRD
variable {s l n pg : Nat} {B : Nat → Nat} {b : Nat → Int32} {h h0 h1 h2 : XH} {Q : Value → XH → Prop} {S L F : List Nat}
theorem Ry.rf : Ry s S L F h h := ⟨Rx.rf, othS.rf⟩
theorem Ry.tr (p : Ry s S L F h h1) (q : Ry s S L F h1 h2) : Ry s S L F h h2 := ⟨p.1.tr q.1, p.2.tr q.2⟩
theorem Ry.set {a j : Nat} {v : Int32} (p : Ry s S L F h h1) (ha : a ∈ S) (h69 : a ≠ 69) (hi : inS s a j) : Ry s S L F h (xsI h1 a j v) := ⟨p.1.set ha h69, p.2.set hi⟩
theorem Ry.fld {j : Nat} {v : Int32} (p : Ry s S L F h h1) (hj : j ∈ F) : Ry s S L F h (xsI h1 69 j v) := ⟨p.1.fld hj, p.2.set (Or.inl rfl)⟩
theorem Rx.ry (p : Rx S L F h h1) (hS : ∀ a ∈ S, wd a = 0) : Ry s S L F h h1 := ⟨p, fun a j hw _ => by
  by_cases q : a = 69
  · subst q; exact absurd rfl hw
  · rw [p.at (fun z => hw (hS a z)) q]⟩
theorem Ry.mono {S' L' F' : List Nat} (p : Ry s S L F h h1) (hS : ∀ a ∈ S, a ∈ S') (hL : ∀ a ∈ L, a ∈ L') (hF : ∀ a ∈ F, a ∈ F') : Ry s S' L' F' h h1 := ⟨p.1.mono hS hL hF, p.2⟩
theorem l_copy (hs : Sh h0) (hB : tpB b n B) (hn : n ≤ 2000) (e4 : xI h0 69 4 = nI n) (e70 : ∀ j, j < n → xI h0 70 j = b j) (kk : ∀ h1, Gx [71] [] h0 h1 → (∀ j, j < n → xI h1 71 j = b j) → Ev 178 10 [.ref 69, .int (nI n)] [] h1 Q) :
    ∀ (k i : Nat) (h : XH), i + k = n → Gx [71] [] h0 h → (∀ j, j < i → xI h 71 j = b j) → Ev 178 10 [.ref 69, .int (nI i)] [] h Q := by
  intro k
  induction k with
  | zero =>
    intro i h hi g hj
    have : i = n := by omega
    subst this
    exact kk h g hj
  | succ k ih =>
    intro i h hi g hj
    refine B_178_10 (g.sh hs (by decide)) ?_
    have e1 : (b i).toInt8.toInt32 = b i := by rw [hB.2 i (by omega)]; exact sx_i8 _ (hB.1 i)
    rw [g.f (by decide), e4, tn_nI (show i < 2 ^ 31 by omega), g.at (a := 70) (by decide) (by decide), e70 i (by omega), e1, nI_1]
    refine ⟨fun q => absurd q (nI_ge (by omega) (by omega)), fun _ => ⟨inb (by omega) (by decide), inb (by omega) (by decide), ih (i + 1) _ (by omega) (g.set (by decide) (by decide)) (fun j hj' => ?_)⟩⟩
    by_cases q : j = i
    · rw [q]; exact xI_ss
    · rw [xI_sd q]; exact hj j (by omega)
theorem l_clear {s : Nat} (hs : Sh h0) (s2 : s < 2) (e19 : xI h0 69 19 = nI s) (kk : ∀ h1, Ry s [96, 97] [] [] h0 h1 → (∀ f, f < 8 → xI h1 96 (8 * s + f) = nI 0 ∧ xI h1 97 (8 * s + f) = nI 0) → Ev 178 137 [.ref 69, .int (nI 8)] [] h1 Q) :
    ∀ (k i : Nat) (h : XH), i + k = 8 → Ry s [96, 97] [] [] h0 h → (∀ f, f < i → xI h 96 (8 * s + f) = nI 0 ∧ xI h 97 (8 * s + f) = nI 0) → Ev 178 137 [.ref 69, .int (nI i)] [] h Q := by
  intro k
  induction k with
  | zero =>
    intro i h hi g hj
    have : i = 8 := by omega
    subst this
    exact kk h g hj
  | succ k ih =>
    intro i h hi g hj
    have e19' : xI h 69 19 = nI s := by rw [g.1.f (by decide)]; exact e19
    have ei : (8 : Int32) * nI s + nI i = nI (8 * s + i) := by rw [show (8 : Int32) * nI s = nI (8 * s) from pk_mul 8 s, nI_add]
    have e19'' : xI (xsI h 96 (8 * s + i) 0) 69 19 = nI s := by rw [xI_n (by decide)]; exact e19'
    refine B_178_137 (g.1.sh hs (by decide)) ?_
    rw [e19', ei, tn_nI (show 8 * s + i < 2 ^ 31 by omega), e19'', ei, tn_nI (show 8 * s + i < 2 ^ 31 by omega), nI_1]
    have in1 : inS s 96 (8 * s + i) := Or.inr ⟨by show 8 * s ≤ 8 * s + i; omega, by show 8 * s + i < 8 * s + 8; omega⟩
    have in2 : inS s 97 (8 * s + i) := Or.inr ⟨by show 8 * s ≤ 8 * s + i; omega, by show 8 * s + i < 8 * s + 8; omega⟩
    refine ⟨fun q => absurd q (nI_ge (a := i) (b := 8) (by omega) (by decide)), fun _ => ⟨inb (by omega) (by decide), inb (by omega) (by decide), ih (i + 1) _ (by omega) ((g.set (by decide) (by decide) in1).set (by decide) (by decide) in2) (fun f hf => ?_)⟩⟩
    by_cases q : f = i
    · rw [q]
      exact ⟨by rw [xI_n (by decide)]; exact xI_ss, xI_ss⟩
    · rw [xI_n (by decide), xI_sd (by omega), xI_sd (by omega), xI_n (by decide)]
      exact hj f (by omega)
theorem rd_start (hs : Sh h) (W : KD h) (X : TR n b h) (hB : tpB b n B) (l2 : l < 2) (e18 : xI h 69 18 = nI l) (kk : ∀ h1, Ry (1 - l) SSt [75] FSt h h1 → xI h1 69 2 = nI 0 → tS (1 - l) B n (.ok (co0, stZ0 pg)) h1 → Ev 178 214 [.ref 69, .null] [] h1 Q) : Ev 178 0 (x_ini 178 [.ref 69]) [] h Q := by
  obtain ⟨n2, e2, e70⟩ := X
  refine B_178_0 hs ?_
  rw [e2]
  have g0 : Ry (1 - l) SSt [75] FSt h (xsI h 69 4 (nI n)) := Ry.rf.fld (by decide)
  have s0 := g0.1.sh hs (by decide)
  have c4 : xI (xsI h 69 4 (nI n)) 69 4 = nI n := xI_ss
  have c70 : ∀ j, j < n → xI (xsI h 69 4 (nI n)) 70 j = b j := fun j hj => by rw [xI_n (by decide)]; exact e70 j hj
  have W0 : KD (xsI h 69 4 (nI n)) := W
  have c18 : xI (xsI h 69 4 (nI n)) 69 18 = nI l := by rw [xI_sd (by decide)]; exact e18
  generalize xsI h 69 4 (nI n) = ha at g0 s0 c4 c70 W0 c18 ⊢
  refine l_copy s0 hB n2 c4 c70 (fun hb g1 e71 => ?_) n 0 ha (by omega) Gx.rf (fun j hj => absurd hj (Nat.not_lt_zero _))
  have s1 := g1.sh s0 (by decide)
  refine B_178_10 s1 ?_
  rw [g1.f (j := 4) (by decide), c4]
  refine ⟨fun _ => ?_, fun q => absurd (nI_le (Nat.le_refl _) (by omega)) q⟩
  have gc : Ry (1 - l) SSt [75] FSt ha (xsI hb 69 2 0) := ((g1.rx (L := [])).ry (by decide)).mono (by decide) (by decide) (by decide) |>.fld (by decide)
  have sc := gc.1.sh s0 (by decide)
  have d4 : xI (xsI hb 69 2 0) 69 4 = nI n := by rw [xI_sd (by decide), g1.f (by decide)]; exact c4
  have d71 : ∀ i, i < n → xI (xsI hb 69 2 0) 71 i = sx (B i) := fun i hi => by rw [xI_n (by decide), e71 i hi]; exact hB.2 i hi
  have d18 : xI (xsI hb 69 2 0) 69 18 = nI l := by rw [xI_sd (by decide), g1.f (by decide)]; exact c18
  have d2 : xI (xsI hb 69 2 0) 69 2 = nI 0 := xI_ss
  have Wc : KD (xsI hb 69 2 0) := by
    unfold KD
    show ∀ k, k < 16 → xL hb 76 k = _
    rw [g1.1.2.1]
    exact W0
  generalize xsI hb 69 2 0 = hc at gc sc d4 d71 d18 d2 Wc ⊢
  refine c_cutR (B := B) (n := n) sc Wc ⟨n2, hB.1, d4, d71⟩ (fun hd gd Td => ?_)
  have sd := gd.sh sc (by decide)
  have f18 : xI hd 69 18 = nI l := by rw [gd.f (by decide)]; exact d18
  have f2 : xI hd 69 2 = nI 0 := by rw [gd.f (by decide)]; exact d2
  refine ⟨sd, fun h3 e3 => ?_⟩
  have i18 : xI (xsI (xsI (xsI (xsI hd 69 11 0) 69 12 0) 69 13 0) 69 15 0) 69 18 = nI l := by rw [xI_sd (by decide), xI_sd (by decide), xI_sd (by decide), xI_sd (by decide)]; exact f18
  have es : (1 : Int32) - nI l = nI (1 - l) := by
    have : l = 0 ∨ l = 1 := by omega
    rcases this with z | z <;> subst z <;> decide
  rw [i18, es] at e3
  have s2 : 1 - l < 2 := by omega
  generalize 1 - l = s at *
  have g3 : Ry s S8t [] FSt hd h3 := by
    rw [e3]
    exact ((((Ry.rf.fld (by decide)).fld (by decide)).fld (by decide)).fld (by decide)).fld (by decide)
  have v19 : xI h3 69 19 = nI s := by rw [e3]; exact xI_ss
  have v15 : xI h3 69 15 = nI 0 := by rw [e3, xI_sd (by decide)]; exact xI_ss
  have v13 : xI h3 69 13 = nI 0 := by rw [e3, xI_sd (by decide), xI_sd (by decide)]; exact xI_ss
  have v12 : xI h3 69 12 = nI 0 := by rw [e3, xI_sd (by decide), xI_sd (by decide), xI_sd (by decide)]; exact xI_ss
  have v11 : xI h3 69 11 = nI 0 := by rw [e3, xI_sd (by decide), xI_sd (by decide), xI_sd (by decide), xI_sd (by decide)]; exact xI_ss
  have v2 : xI h3 69 2 = nI 0 := by rw [e3, xI_sd (by decide), xI_sd (by decide), xI_sd (by decide), xI_sd (by decide), xI_sd (by decide)]; exact f2
  clear e3 i18
  have g4a : Ry s S8t [] FSt h3 (xsI (xsI h3 69 20 0) 69 39 0) := (Ry.rf.fld (by decide)).fld (by decide)
  have w20 : xI (xsI (xsI h3 69 20 0) 69 39 0) 69 20 = nI 0 := by rw [xI_sd (by decide)]; exact xI_ss
  have w39 : xI (xsI (xsI h3 69 20 0) 69 39 0) 69 39 = nI 0 := xI_ss
  have wf : ∀ j, j ≠ 20 → j ≠ 39 → xI (xsI (xsI h3 69 20 0) 69 39 0) 69 j = xI h3 69 j := fun j a1 a2 => by rw [xI_sd a2, xI_sd a1]
  generalize xsI (xsI h3 69 20 0) 69 39 0 = h4 at g4a w20 w39 wf ⊢
  have y19 : xI h4 69 19 = nI s := by rw [wf 19 (by decide) (by decide)]; exact v19
  have ib : InB (nI s) 2 := inb (by omega) (by decide)
  have in79 : ∀ a, wd a = 1 → inS s a s := fun a ha => Or.inr (by rw [ha]; omega)
  rw [y19, tn_nI (show s < 2 ^ 31 by omega)]
  have z19 : xI (xsI h4 79 s 0) 69 19 = nI s := by rw [xI_n (by decide)]; exact y19
  rw [z19, tn_nI (show s < 2 ^ 31 by omega)]
  refine ⟨ib, ib, fun h5 e5 => ?_⟩
  have g5 : Ry s S8t [] FSt h4 h5 := by rw [e5]; exact (Ry.rf.set (by decide) (by decide) (in79 79 (by decide))).set (by decide) (by decide) (in79 84 (by decide))
  have x79 : xI h5 79 s = nI 0 := by rw [e5, xI_n (by decide)]; exact xI_ss
  have x84 : xI h5 84 s = nI 0 := by rw [e5]; exact xI_ss
  have x69 : xI h5 69 = xI h4 69 := by rw [e5, xI_n (by decide), xI_n (by decide)]
  clear e5
  have y19 : xI h5 69 19 = nI s := by rw [x69]; exact y19
  rw [y19, tn_nI (show s < 2 ^ 31 by omega)]
  have z19 : xI (xsI h5 83 s 1) 69 19 = nI s := by rw [xI_n (by decide)]; exact y19
  rw [z19, tn_nI (show s < 2 ^ 31 by omega)]
  have z19 : xI (xsI (xsI h5 83 s 1) 92 s 0) 69 19 = nI s := by rw [xI_n (by decide), xI_n (by decide)]; exact y19
  rw [z19, tn_nI (show s < 2 ^ 31 by omega)]
  refine ⟨ib, ib, ib, fun h6 e6 => ?_⟩
  have g6 : Ry s S8t [] FSt h5 h6 := by rw [e6]; exact ((Ry.rf.set (by decide) (by decide) (in79 83 (by decide))).set (by decide) (by decide) (in79 92 (by decide))).set (by decide) (by decide) (in79 93 (by decide))
  have x93 : xI h6 93 s = nI 0 := by rw [e6]; exact xI_ss
  have x92 : xI h6 92 s = nI 0 := by rw [e6, xI_n (by decide)]; exact xI_ss
  have x83 : xI h6 83 s = nI 1 := by rw [e6, xI_n (by decide), xI_n (by decide)]; exact xI_ss
  have x69' : xI h6 69 = xI h5 69 := by rw [e6, xI_n (by decide), xI_n (by decide), xI_n (by decide)]
  have x79' : xI h6 79 = xI h5 79 := by rw [e6, xI_n (by decide), xI_n (by decide), xI_n (by decide)]
  have x84' : xI h6 84 = xI h5 84 := by rw [e6, xI_n (by decide), xI_n (by decide), xI_n (by decide)]
  clear e6
  have s6 : Sh h6 := ((g3.tr g4a).tr (g5.tr g6)).1.sh sd (by decide)
  have y19 : xI h6 69 19 = nI s := by rw [x69']; exact y19
  refine l_clear (s := s) s6 s2 y19 (fun h7 g7 e7 => ?_) 8 0 h6 (by omega) Ry.rf (fun f hf => absurd hf (Nat.not_lt_zero _))
  have s7 := g7.1.sh s6 (by decide)
  have k19 : xI h7 69 19 = nI s := by rw [g7.1.f (by decide)]; exact y19
  refine B_178_137 s7 ?_
  rw [k19]
  have j19 : xI (xsI h7 69 32 (36 * nI s)) 69 19 = nI s := by rw [xI_sd (by decide)]; exact k19
  rw [j19]
  have j19 : xI (xsI (xsI h7 69 32 (36 * nI s)) 69 45 (130 * nI s)) 69 19 = nI s := by rw [xI_sd (by decide), xI_sd (by decide)]; exact k19
  rw [j19, show (36 : Int32) * nI s = nI (36 * s) from pk_mul 36 s, show (130 : Int32) * nI s = nI (130 * s) from pk_mul 130 s, show (420 : Int32) * nI s = nI (420 * s) from pk_mul 420 s]
  refine ⟨fun _ => ?_, fun q => absurd (by decide : (8 : Int32) ≤ nI 8) q⟩
  have g8 : Ry s S8t [] FSt h7 (xsI (xsI (xsI h7 69 32 (nI (36 * s))) 69 45 (nI (130 * s))) 69 51 (nI (420 * s))) := ((Ry.rf.fld (by decide)).fld (by decide)).fld (by decide)
  have u51 : xI (xsI (xsI (xsI h7 69 32 (nI (36 * s))) 69 45 (nI (130 * s))) 69 51 (nI (420 * s))) 69 51 = nI (420 * s) := xI_ss
  have u45 : xI (xsI (xsI (xsI h7 69 32 (nI (36 * s))) 69 45 (nI (130 * s))) 69 51 (nI (420 * s))) 69 45 = nI (130 * s) := by rw [xI_sd (by decide)]; exact xI_ss
  have u32 : xI (xsI (xsI (xsI h7 69 32 (nI (36 * s))) 69 45 (nI (130 * s))) 69 51 (nI (420 * s))) 69 32 = nI (36 * s) := by rw [xI_sd (by decide), xI_sd (by decide)]; exact xI_ss
  have uf : ∀ j, j ≠ 32 → j ≠ 45 → j ≠ 51 → xI (xsI (xsI (xsI h7 69 32 (nI (36 * s))) 69 45 (nI (130 * s))) 69 51 (nI (420 * s))) 69 j = xI h3 69 j ∨ j = 20 ∨ j = 39 := fun j a1 a2 a3 => by
    by_cases z : j = 20 ∨ j = 39
    · exact Or.inr z
    · refine Or.inl ?_
      rw [xI_sd a3, xI_sd a2, xI_sd a1, g7.1.f (by simp), x69', x69, wf j (by omega) (by omega)]
  have uc : ∀ c, c ≠ 69 → xI (xsI (xsI (xsI h7 69 32 (nI (36 * s))) 69 45 (nI (130 * s))) 69 51 (nI (420 * s))) c = xI h7 c := fun c hc => by rw [xI_n hc, xI_n hc, xI_n hc]
  have u20 : xI (xsI (xsI (xsI h7 69 32 (nI (36 * s))) 69 45 (nI (130 * s))) 69 51 (nI (420 * s))) 69 20 = nI 0 := by rw [xI_sd (by decide), xI_sd (by decide), xI_sd (by decide), g7.1.f (by decide), x69', x69]; exact w20
  have u39 : xI (xsI (xsI (xsI h7 69 32 (nI (36 * s))) 69 45 (nI (130 * s))) 69 51 (nI (420 * s))) 69 39 = nI 0 := by rw [xI_sd (by decide), xI_sd (by decide), xI_sd (by decide), g7.1.f (by decide), x69', x69]; exact w39
  generalize xsI (xsI (xsI h7 69 32 (nI (36 * s))) 69 45 (nI (130 * s))) 69 51 (nI (420 * s)) = h8 at g8 u51 u45 u32 uf uc u20 u39 ⊢
  have g38 : Ry s S8t [] FSt hd h8 := (((g3.tr g4a).tr (g5.tr g6)).tr (g7.mono (by decide) (by decide) (by decide))).tr g8
  have gall : Ry s SSt [75] FSt h h8 := ((g0.tr gc).tr ((gd.ry (s := s) (by decide)).mono (by decide) (by decide) (by decide))).tr (g38.mono (by decide) (by decide) (by decide))
  have s8 := gall.1.sh hs (by decide)
  have fl : ∀ j v, j ≠ 32 → j ≠ 45 → j ≠ 51 → j ≠ 20 → j ≠ 39 → xI h3 69 j = v → xI h8 69 j = v := fun j v a1 a2 a3 a4 a5 e => by
    rcases uf j a1 a2 a3 with z | z
    · rw [z]; exact e
    · omega
  refine kk h8 gall (fl 2 _ (by decide) (by decide) (by decide) (by decide) (by decide) v2) ⟨⟨⟨s8, s2, fl 19 _ (by decide) (by decide) (by decide) (by decide) (by decide) v19, fun j hj => ?_, n2⟩, fl 13 _ (by decide) (by decide) (by decide) (by decide) (by decide) v13, fl 11 _ (by decide) (by decide) (by decide) (by decide) (by decide) v11, ⟨Nat.zero_le _, fun i hi => absurd hi (Nat.not_lt_zero _)⟩, fl 15 _ (by decide) (by decide) (by decide) (by decide) (by decide) v15, fl 12 _ (by decide) (by decide) (by decide) (by decide) (by decide) v12, Nat.le_refl _, u51, fun i hi => absurd hi (Nat.not_lt_zero _), u39, fun i hi => absurd hi (Nat.not_lt_zero _)⟩, ⟨[], ⟨fun k hk => absurd hk (Nat.not_lt_zero _), fun k hk => absurd hk (Nat.not_lt_zero _), fun k hk => absurd hk (Nat.not_lt_zero _), rfl⟩, u20, Nat.zero_le _, fun k hk => absurd hk (Nat.not_lt_zero _)⟩, ⟨Nat.zero_le _, ?_, fun f hf => absurd hf (Nat.not_lt_zero _)⟩, ⟨1, by decide, ?_, fun _ => rfl⟩, ⟨Nat.zero_le _, ?_, u32, fun f hf => absurd hf (Nat.not_lt_zero _)⟩, ⟨u45, Nat.zero_le _, fun i hi => absurd hi (Nat.not_lt_zero _)⟩, fun _ f hf => ?_, ?_, ?_⟩
  · unfold rT1
    rw [g38.1.at (a := 72) (by decide) (by decide), g38.1.at (a := 73) (by decide) (by decide), g38.1.at (a := 74) (by decide) (by decide), g38.1.al (a := 75) (by decide)]
    exact Td j hj
  · rw [uc 79 (by decide), g7.1.at (by decide) (by decide), x79']
    exact x79
  · rw [uc 83 (by decide), g7.1.at (by decide) (by decide)]
    exact x83
  · rw [uc 84 (by decide), g7.1.at (by decide) (by decide), x84']
    exact x84
  · rw [uc 96 (by decide), uc 97 (by decide)]
    exact e7 f hf
  · rw [uc 92 (by decide), g7.1.at (by decide) (by decide)]
    exact x92
  · rw [uc 93 (by decide), g7.1.at (by decide) (by decide)]
    exact x93
end RRD

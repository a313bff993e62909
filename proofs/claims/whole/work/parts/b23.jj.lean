/-! BOTH SIDES BETWEEN CALLS -/
def CO (T : Nat → Nat → Int32) (r : Nat → Int32) (n : Nat) (f : Nat → Nat → Int32) (hb : Nat → Bool) (hf : Nat → Nat → Int32) (tl : Nat) (b : Nat → Int32) : Prop := rOk T r ∧ (∀ k, k < n → rOk T (f k)) ∧ (∀ s, s < 3 → hb s = true → rOk T (hf s)) ∧ ∃ B, tpB b tl B
def JJ (xs : Nat → Int32) (L : Nat) (h : XH) : Prop := ∃ T c l r n f hb hf sn q tl b pl, CI T c r n f hb hf sn q tl b pl h ∧ RI T l r n f hb hf sn q tl b pl h ∧ CO T r n f hb hf tl b ∧ scr xs L h
abbrev SQu : List Nat := [105, 106, 107, 109, 110, 111, 112, 114, 115, 116, 117, 121]
abbrev G5 : List (Nat × Nat) := [(58, 8), (58, 9), (58, 10), (58, 11), (58, 12)]
section JJS
variable {T : Nat → Nat → Int32} {c l L : Nat} {h h1 h2 : XH} {r : Nat → Int32} {n sn tl : Nat} {f hf : Nat → Nat → Int32} {hb : Nat → Bool} {q : Nat → Nat × Nat × Nat} {b xs : Nat → Int32} {pl : Int32} {S F : List Nat}
theorem scr.kc (s : scr xs L h) (k : KC h h1) : scr xs L h1 := ⟨k.2.2.2.trans s.1, k.2.2.1.trans s.2.1, k.2.1.trans s.2.2⟩
theorem scr.kr (s : scr xs L h) (k : KR h h1) : scr xs L h1 := ⟨by rw [k.2.2.1]; exact s.1, by rw [k.2.2.2.1]; exact s.2.1, by rw [Lx.at k (by decide)]; exact s.2.2⟩
theorem CI.sh (I : CI T c r n f hb hf sn q tl b pl h) : Sh h := I.1.1.1
theorem xT_lt {G : List (Nat × Nat)} (s : Sh h) (hG : ∀ q ∈ G, q.1 < 124) : ∀ q ∈ G, q.1 < xT h := fun q hq => by
  have := hG q hq
  have := s.2.2.2.2.2.2.1
  omega
theorem CI.fa (I : CI T c r n f hb hf sn q tl b pl h) (F : Fx SB h h1) (A : CA T c r h1) : CI T c r n f hb hf sn q tl b pl h1 ∧ KC h h1 := by
  obtain ⟨⟨i1, i2, i3, i4, i5⟩, ⟨a1, a2, a3, a4⟩, s1, p1, c1, t1, l1, w1, w2⟩ := I
  have s := i1.1
  have P : Hx SB [] h h1 := F.hx s (by decide)
  have hG0 : ∀ q ∈ ([] : List (Nat × Nat)), q ∈ GK := fun q hq => (by cases hq)
  have e4 : xI h1 4 = xI h 4 := P.at s (by decide) (by decide) hG0 (by decide)
  have e58 : xI h1 58 = xI h 58 := P.at s (by decide) (by decide) hG0 (by decide)
  exact ⟨⟨⟨A.1, A.2.1, P.2.2.2.2.1 i3, i4, i5⟩, ⟨A.2.2.2, a2.hx s P (fun x hx => (by cases hx)) (by decide), a3.hx s P (fun x hx => (by cases hx)) (by decide), a4.hx s P (by rw [e58]) (fun x hx => (by cases hx)) (by decide)⟩, s1.hx s P (by rw [e58]) hG0 (by decide), p1.hx s P hG0 (by decide), c1.hx s P (by rw [e4]) hG0 (by decide), t1.hx s P (by rw [e4]) hG0 (by decide), by rw [e4]; exact l1, w1.hx s P hG0 (by decide), w2.hx s P hG0 (by decide)⟩, P.kc s (by decide) hG0⟩
theorem CI.fw (I : CI T c r n f hb hf sn q tl b pl h) (P : Hx SL GR3 h h1) (A : CW T c r h1) : CI T c r n f hb hf sn q tl b pl h1 ∧ KC h h1 := by
  obtain ⟨⟨i1, i2, i3, i4, i5⟩, ⟨a1, a2, a3, a4⟩, s1, p1, c1, t1, l1, w1, w2⟩ := I
  have s := i1.1
  have hG0 : ∀ q ∈ GR3, q ∈ GK := by decide
  have e4 : xI h1 4 = xI h 4 := P.at s (by decide) (by decide) hG0 (by decide)
  have e58 : xI h1 58 = xI h 58 := P.at s (by decide) (by decide) hG0 (by decide)
  exact ⟨⟨⟨A.1, A.2.1, A.2.2.2.2, i4, i5⟩, ⟨a1.hx s P hG0 (by decide), A.2.2.2.1, a3.hx s P (by decide) (by decide), a4.hx s P (by rw [e58]) (by decide) (by decide)⟩, s1.hx s P (by rw [e58]) hG0 (by decide), p1.hx s P hG0 (by decide), c1.hx s P (by rw [e4]) hG0 (by decide), t1.hx s P (by rw [e4]) hG0 (by decide), by rw [e4]; exact l1, w1.hx s P hG0 (by decide), w2.hx s P hG0 (by decide)⟩, P.kc s (by decide) hG0⟩
theorem CI.fs (I : CI T c r n f hb hf sn q tl b pl h) (P : Hx SS [(49, 5)] h h1) (A : CS T c r h1) : CI T c r n f hb hf sn q tl b pl h1 ∧ KC h h1 := by
  obtain ⟨⟨i1, i2, i3, i4, i5⟩, ⟨a1, a2, a3, a4⟩, s1, p1, c1, t1, l1, w1, w2⟩ := I
  have s := i1.1
  have hG0 : ∀ q ∈ [((49 : Nat), (5 : Nat))], q ∈ GK := by decide
  have e4 : xI h1 4 = xI h 4 := P.at s (by decide) (by decide) hG0 (by decide)
  have e58 : xI h1 58 = xI h 58 := P.at s (by decide) (by decide) hG0 (by decide)
  exact ⟨⟨⟨A.1, A.2.1, A.2.2.2.2, i4, i5⟩, ⟨a1.hx s P hG0 (by decide), a2.hx s P (by decide) (by decide), A.2.2.2.1, a4.hx s P (by rw [e58]) (by decide) (by decide)⟩, s1.hx s P (by rw [e58]) hG0 (by decide), p1.hx s P hG0 (by decide), c1.hx s P (by rw [e4]) hG0 (by decide), t1.hx s P (by rw [e4]) hG0 (by decide), by rw [e4]; exact l1, w1.hx s P hG0 (by decide), w2.hx s P hG0 (by decide)⟩, P.kc s (by decide) hG0⟩
theorem CI.fg (I : CI T c r n f hb hf sn q tl b pl h) (P : Hx (63 :: SBf) G5 h h1) (A : CG T c sn q h1) : CI T c r n f hb hf sn q tl b pl h1 ∧ KC h h1 := by
  obtain ⟨⟨i1, i2, i3, i4, i5⟩, ⟨a1, a2, a3, a4⟩, s1, p1, c1, t1, l1, w1, w2⟩ := I
  have s := i1.1
  have hG0 : ∀ q ∈ G5, q ∈ GK := by decide
  have e4 : xI h1 4 = xI h 4 := P.at s (by decide) (by decide) hG0 (by decide)
  refine ⟨⟨⟨A.1, ?_, A.2.1, i4, i5⟩, ⟨a1.hx s P hG0 (by decide), a2.hx s P (by decide) (by decide), a3.hx s P (by decide) (by decide), A.2.2.1⟩, A.2.2.2, p1.hx s P hG0 (by decide), c1.hx s P (by rw [e4]) hG0 (by decide), t1.hx s P (by rw [e4]) hG0 (by decide), by rw [e4]; exact l1, w1.hx s P hG0 (by decide), w2.hx s P hG0 (by decide)⟩, P.kc s (by decide) hG0⟩
  rw [P.at s (by decide) (by decide) hG0 (by decide)]
  exact i2
theorem CI.f2 (I : CI T c r n f hb hf sn q tl b pl h) (ro : rOk T r) (F : Fx [34, 35] h h1) : CI T c r n f hb hf sn q tl b pl h1 ∧ KC h h1 :=
  I.fa (F.mono (by decide)) ⟨I.1.1.fx F (by decide), by rw [F.at (by decide)]; exact I.1.2.1, ro, I.2.1.1.fx F (by decide)⟩
theorem RI.gx (i : RI T l r n f hb hf sn q tl b pl h) (g : Gx S F h h1) (hS : ∀ a ∈ S, a ∈ SQu) (hF : ∀ j ∈ F, j = 58 ∨ j = 61) : RI T l r n f hb hf sn q tl b pl h1 ∧ KR h h1 := by
  obtain ⟨⟨i1, i2, i3, i4⟩, i5, i6, i7, i8, i9, i10, i11⟩ := i
  have g : Gx SQu [58, 61] h h1 := g.mono hS (fun j hj => by rcases hF j hj with z | z <;> rw [z] <;> decide)
  refine ⟨⟨⟨g.sh i1 (by decide), by rw [g.f (by decide)]; exact i2, by rw [rt_gx g (by decide)]; exact i3, i4⟩, by rw [g.at (by decide) (by decide)]; exact i5, ?_, ?_, ?_, ?_, by rw [g.f (by decide)]; exact i10, ?_⟩, g.kr (by decide)⟩
  · unfold PR
    rw [g.f (by decide), g.at (by decide) (by decide)]
    exact i6
  · unfold HR
    rw [g.at (a := 122) (by decide) (by decide), g.at (a := 123) (by decide) (by decide)]
    exact i7
  · exact i8.gx g (by decide) (by decide)
  · unfold TR
    rw [g.f (by decide), g.at (by decide) (by decide)]
    exact i9
  · unfold KD
    rw [g.1.2.1]
    exact i11
end JJS

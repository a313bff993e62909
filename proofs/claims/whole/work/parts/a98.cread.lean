/-! READING, the one side: the call -/
section CRD
variable {it : Nat} {B : Nat → Nat} {T : Nat → Nat → Int32} {c : Nat} {h h1 h0 : XH} {Q : Value → XH → Prop} {r : Nat → Int32} {n sn tl : Nat} {f hf : Nat → Nat → Int32} {hb : Nat → Bool} {q : Nat → Nat × Nat × Nat} {b : Nat → Int32} {pl : Int32}
theorem gl_68 {v : Nat} (s : Sh h) : ∀ q ∈ shG, gl (xsR h 6 8 v) q = gl h q := by
  have k2 : ∀ q ∈ shG, ¬ (q.1 = 6 ∧ q.2.1 = 8) := by decide
  intro q hq
  unfold gl
  rw [xR_s, if_neg (k2 q hq)]
  rfl
theorem rm_68 {v : Nat} (s : Sh h) (rm : RmOk h) : RmOk (xsR h 6 8 v) := by
  obtain ⟨r1, r2, r3⟩ := rm
  have e : shG.map (gl (xsR h 6 8 v)) = shG.map (gl h) := List.map_congr_left (gl_68 s)
  exact ⟨by rw [e]; exact r1, r2, fun q hq => by rw [gl_68 s q hq]; exact r3 q hq⟩
theorem CM.r68 {v : Nat} (m : CM T c h) : CM T c (xsR h 6 8 v) := by
  obtain ⟨m1, m2, m3, m4⟩ := m
  have e : xR (xsR h 6 8 v) 34 0 = xR h 34 0 := by rw [xR_s, if_neg (by decide)]
  refine ⟨sh_R68 m1, by rw [e]; exact m2, ?_, m4⟩
  rw [← m3]
  funext k
  unfold tx
  rw [e]
  rfl
theorem CI.r68 {v : Nat} (I : CI T c r n f hb hf sn q tl b pl h) : CI T c r n f hb hf sn q tl b pl (xsR h 6 8 v) := by
  obtain ⟨⟨i1, i2, i3, i4, i5⟩, ⟨a1, a2, a3, a4⟩, s1, p1, c1, t1, l1, w1, w2⟩ := I
  have e : ∀ a j, ¬ (a = 6 ∧ j = 8) → xR (xsR h 6 8 v) a j = xR h a j := fun a j z => by rw [xR_s, if_neg z]
  refine ⟨⟨i1.r68, i2, rm_68 i1.1 i3, i4, i5⟩, ⟨a1, ?_, ?_, ?_⟩, s1, p1, c1, t1, l1, w1, w2⟩
  · unfold WOk WOn
    rw [e 43 4 (by decide)]
    exact a2
  · unfold SOk SOn
    rw [e 49 5 (by decide)]
    exact a3
  · unfold BOk BOn CV
    rw [e 58 8 (by decide), e 58 9 (by decide), e 58 11 (by decide), e 58 12 (by decide)]
    exact a4
abbrev SRd (it : Nat) : List Nat := 8 :: 9 :: SI it
theorem Lx.r68 {S L : List Nat} {v : Nat} (p : Lx S L h h1) : Lx S L (xsR h 6 8 v) (xsR h1 6 8 v) := by
  refine ⟨?_, p.2.1, p.2.2.1, p.2.2.2.1, p.2.2.2.2.1, p.2.2.2.2.2.1, p.2.2.2.2.2.2⟩
  funext a i
  rw [xR_s, xR_s, p.1]
/-- what stands of the one side when the other script was read into -/
theorem CI.rd (I : CI T c r n f hb hf sn q tl b pl h) (hit : it = 14 ∨ it = 24) (hc : c ≠ it) (p : Lx (SRd it) [10, 12, 13] h h1) (w : WK it h1) : CI T c r n f hb hf sn q tl b pl h1 := by
  obtain ⟨⟨i1, i2, i3, i4, i5⟩, ⟨a1, a2, a3, a4⟩, s1, p1, c1, t1, l1, w1, w2⟩ := I
  have s := i1.1
  have c2 := i1.c2
  have ip : ∀ a ∈ SRd it ++ [10, 12, 13], a < 34 ∧ 6 ≤ a := by
    intro a ha
    simp only [List.mem_append, List.mem_cons, List.not_mem_nil, or_false] at ha
    omega
  have nS : ∀ a, 34 ≤ a ∨ a < 6 → a ∉ SRd it ++ [10, 12, 13] := fun a ha z => by have := ip a z; omega
  have P : Hx (SRd it ++ [10, 12, 13]) [] h h1 := p.hx s (fun z => by have := ip 1 (List.mem_append_left _ z); omega)
  have hG0 : ∀ q ∈ ([] : List (Nat × Nat)), q ∈ GK := fun q hq => (by cases hq)
  have s1' : Sh h1 := P.1
  have cm : CM T c h1 := by
    refine ⟨s1', by rw [p.1]; exact i1.2.1, ?_, i1.2.2.2⟩
    rw [← i1.2.2.1]
    funext k
    unfold tx
    rw [p.1, i1.2.1]
    by_cases hk : k ≤ 9
    · rw [if_pos hk, if_pos hk]
      refine p.at (fun z => ?_)
      simp only [List.mem_cons, List.not_mem_nil, or_false] at z
      omega
    · rw [if_neg hk, if_neg hk]
  have e4 : xI h1 4 = xI h 4 := P.at s (by decide) (nS 4 (by omega)) hG0 (by decide)
  have e58 : xI h1 58 = xI h 58 := P.at s (by decide) (nS 58 (by omega)) hG0 (by decide)
  refine ⟨⟨cm, ?_, P.2.2.2.2.1 i3, i4, i5⟩, ⟨a1.hx s P hG0 (fun a ha => nS a ?_), a2.hx s P (fun x hx => (by cases hx)) (fun a ha => ?_), a3.hx s P (fun x hx => (by cases hx)) (fun a ha => ?_), a4.hx s P (by rw [e58]) (fun x hx => (by cases hx)) (fun a ha => ?_)⟩, s1.hx s P (by rw [e58]) hG0 (fun a ha => nS a ?_), p1.hx s P hG0 (fun a ha => nS a ?_), c1.hx s P (by rw [e4]) hG0 (nS 42 (by omega)), t1.hx s P (by rw [e4]) hG0 (nS 5 (by omega)), by rw [e4]; exact l1, ?_, w.1, ?_⟩
  · rw [P.at s (by decide) (nS 39 (by omega)) hG0 (by decide)]; exact i2
  · simp only [List.mem_cons, List.not_mem_nil, or_false] at ha; omega
  · have := ip a ha; omega
  · have := ip a ha; omega
  · have := ip a ha; omega
  · simp only [List.mem_cons, List.not_mem_nil, or_false] at ha; omega
  · simp only [List.mem_cons, List.not_mem_nil, or_false] at ha; omega
  · refine w1.hx s P hG0 (fun z => ?_)
    simp only [List.mem_append, List.mem_cons, List.not_mem_nil, or_false] at z
    omega
  · have oth : ∀ a, a = c + 1 → xI h1 a = xI h a := by
      intro a ha
      refine p.at (fun z => ?_)
      simp only [List.mem_cons, List.not_mem_nil, or_false] at z
      omega
    rcases hit with e | e
    · subst e
      have : c = 24 := by omega
      subst this
      refine ⟨w.2, ?_⟩
      rw [oth 25 rfl]
      exact w2.2.2
    · subst e
      have : c = 14 := by omega
      subst this
      refine ⟨?_, w.2⟩
      rw [oth 15 rfl]
      exact w2.2.1
theorem CI.tp0 (I : CI T c r n f hb hf sn q tl b pl h) {v : Int32} : CI T c r n f hb hf sn q 0 b v (xsI (xsI h 4 1 0) 4 2 v) := by
  obtain ⟨⟨i1, i2, i3, i4, i5⟩, ⟨a1, a2, a3, a4⟩, s1, p1, c1, t1, l1, w1, w2⟩ := I
  have s := i1.1
  have F : Fx [4] h (xsI (xsI h 4 1 0) 4 2 v) := (Fx.rf.set (by decide)).set (by decide)
  have P : Hx [4] [] h (xsI (xsI h 4 1 0) 4 2 v) := F.hx s (by decide)
  have hG0 : ∀ q ∈ ([] : List (Nat × Nat)), q ∈ GK := fun q hq => (by cases hq)
  have e4 : ∀ j, j ≠ 1 → j ≠ 2 → xI (xsI (xsI h 4 1 0) 4 2 v) 4 j = xI h 4 j := fun j h1 h2 => by rw [xI_sd h2, xI_sd h1]
  have e58 : xI (xsI (xsI h 4 1 0) 4 2 v) 58 = xI h 58 := P.at s (by decide) (by decide) hG0 (by decide)
  have cm : CM T c (xsI (xsI h 4 1 0) 4 2 v) := by
    refine ⟨P.1, i1.2.1, ?_, i1.2.2.2⟩
    rw [← i1.2.2.1]
    have c2 := i1.c2
    have e34 : xR h 34 0 = c := i1.2.1
    funext k
    unfold tx
    by_cases hk : k ≤ 9
    · rw [if_pos hk, if_pos hk]
      exact F.at (fun z => by
        have := List.mem_singleton.mp z
        have : xR h 34 0 + k = 4 := this
        omega)
    · rw [if_neg hk, if_neg hk]
  refine ⟨⟨cm, ?_, P.2.2.2.2.1 i3, i4, i5⟩, ⟨a1.hx s P hG0 (by decide), a2.hx s P (fun x hx => (by cases hx)) (by decide), a3.hx s P (fun x hx => (by cases hx)) (by decide), a4.hx s P (by rw [e58]) (fun x hx => (by cases hx)) (by decide)⟩, s1.hx s P (by rw [e58]) hG0 (by decide), p1.hx s P hG0 (by decide), c1.hx s P (e4 10 (by decide) (by decide)) hG0 (by decide), ⟨Nat.zero_le _, by rw [xI_sd (by decide)]; exact xI_ss, fun i hi => absurd hi (Nat.not_lt_zero _)⟩, xI_ss, w1.hx s P hG0 (by decide), w2.hx s P hG0 (by decide)⟩
  rw [P.at s (by decide) (by decide) hG0 (by decide)]
  exact i2
end CRD

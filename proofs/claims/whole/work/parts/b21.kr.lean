/-! WHAT ONE SIDE'S DOINGS LEAVE OF THE OTHER'S; the beginning -/
section KRC
variable {T : Nat → Nat → Int32} {c l : Nat} {h h1 h2 : XH} {r : Nat → Int32} {n sn tl : Nat} {f hf : Nat → Nat → Int32} {hb : Nat → Bool} {q : Nat → Nat × Nat × Nat} {b : Nat → Int32} {pl : Int32} {S F : List Nat}
theorem KR.rf : KR h h := Lx.rf
theorem KR.tr (p : KR h h1) (q : KR h1 h2) : KR h h2 := Lx.tr p q
theorem Gx.kr (g : Gx S F h h1) (hS : ∀ a ∈ S, a ∈ SRf) : KR h h1 := (Fx.lx (L := []) g.1).mono (fun a ha => by
  rcases List.mem_cons.mp ha with e | e
  · rw [e]; decide
  · exact hS a e) (fun a ha => (by cases ha))
theorem KR.sh (p : KR h h1) (s : Sh h) : Sh h1 := Lx.sh p s (by decide)
theorem CI.kr (I : CI T c r n f hb hf sn q tl b pl h) (p : KR h h1) : CI T c r n f hb hf sn q tl b pl h1 := by
  obtain ⟨⟨i1, i2, i3, i4, i5⟩, ⟨a1, a2, a3, a4⟩, s1, p1, c1, t1, l1, w1, w2⟩ := I
  have s := i1.1
  have P : Hx (SRf ++ SRf) [] h h1 := Lx.hx p s (by decide)
  have hG0 : ∀ q ∈ ([] : List (Nat × Nat)), q ∈ GK := fun q hq => (by cases hq)
  have e4 : xI h1 4 = xI h 4 := P.at s (by decide) (by decide) hG0 (by decide)
  have e58 : xI h1 58 = xI h 58 := P.at s (by decide) (by decide) hG0 (by decide)
  have cm : CM T c h1 := by
    have c2 := i1.c2
    refine ⟨P.1, by rw [p.1]; exact i1.2.1, ?_, i1.2.2.2⟩
    rw [← i1.2.2.1]
    funext k
    unfold tx
    rw [p.1, i1.2.1]
    by_cases hk : k ≤ 9
    · rw [if_pos hk, if_pos hk]
      refine Lx.at p (fun z => ?_)
      have : ∀ a ∈ SRf, 69 ≤ a := by decide
      have := this _ z
      omega
    · rw [if_neg hk, if_neg hk]
  refine ⟨⟨cm, ?_, P.2.2.2.2.1 i3, i4, i5⟩, ⟨a1.hx s P hG0 (by decide), a2.hx s P (fun x hx => (by cases hx)) (by decide), a3.hx s P (fun x hx => (by cases hx)) (by decide), a4.hx s P (by rw [e58]) (fun x hx => (by cases hx)) (by decide)⟩, s1.hx s P (by rw [e58]) hG0 (by decide), p1.hx s P hG0 (by decide), c1.hx s P (by rw [e4]) hG0 (by decide), t1.hx s P (by rw [e4]) hG0 (by decide), by rw [e4]; exact l1, w1.hx s P hG0 (by decide), w2.hx s P hG0 (by decide)⟩
  rw [P.at s (by decide) (by decide) hG0 (by decide)]
  exact i2
theorem rt_kc (k : KC h h1) : rt h1 = rt h := by
  funext a
  unfold rt
  by_cases ha : 79 ≤ a ∧ a ≤ 104
  · rw [if_pos ha, if_pos ha, (k.1 a (by omega) (by omega)).1]
  · rw [if_neg ha, if_neg ha]
theorem RI.kc (i : RI T l r n f hb hf sn q tl b pl h) (k : KC h h1) (s : Sh h1) : RI T l r n f hb hf sn q tl b pl h1 := by
  obtain ⟨⟨i1, i2, i3, i4⟩, i5, i6, i7, i8, i9, i10, i11⟩ := i
  have e : ∀ a, 69 ≤ a → a < 124 → xI h1 a = xI h a := fun a h6 h7 => (k.1 a h6 h7).1
  refine ⟨⟨s, by rw [e 69 (by decide) (by decide)]; exact i2, by rw [rt_kc k]; exact i3, i4⟩, by rw [e 108 (by decide) (by decide)]; exact i5, ?_, ?_, ?_, ?_, by rw [e 69 (by decide) (by decide)]; exact i10, ?_⟩
  · unfold PR
    rw [e 69 (by decide) (by decide), e 113 (by decide) (by decide)]
    exact i6
  · unfold HR
    rw [e 122 (by decide) (by decide), e 123 (by decide) (by decide)]
    exact i7
  · unfold SNr
    rw [e 69 (by decide) (by decide), e 118 (by decide) (by decide), e 119 (by decide) (by decide), e 120 (by decide) (by decide)]
    exact i8
  · unfold TR
    rw [e 69 (by decide) (by decide), e 70 (by decide) (by decide)]
    exact i9
  · unfold KD
    rw [(k.1 76 (by decide) (by decide)).2]
    exact i11
end KRC
section BEG
variable {L : Nat} {xs : Nat → Int32} {Q : Value → XH → Prop} {f hf : Nat → Nat → Int32} {q : Nat → Nat × Nat × Nat} {b : Nat → Int32}
theorem i_CI : CI T0 14 (setS T0 (tR T0)) 0 f (fun _ => false) hf 0 q 0 b (-1) (rH3 L xs) := by
  have sh := i_sh (L := L) (xs := xs)
  have rm := i_rm (L := L) (xs := xs)
  obtain ⟨s1, s2, s3, s4, s5, s6, s7, s8⟩ := rc_sim (L := L) (xs := xs)
  generalize rH3 L xs = h at sh rm s1 s2 s3 s4 s5 s6 s7 s8 ⊢
  obtain ⟨f1, f2, f3, f4, f5, f6, f7, f8, f9, f10, f11, f12⟩ := rc_4
  have et : tx h = T0 := by
    funext k
    unfold tx T0
    by_cases hk : k ≤ 9
    · rw [if_pos hk, if_pos hk, s2, rc_s.1, s8 _ (by omega)]
    · rw [if_neg hk, if_neg hk]
  have g11 := rc_Gl (58, 11, 1, 67) (by decide)
  have g12 := rc_Gl (58, 12, 1, 68) (by decide)
  have g11 : xN rc0 (xR rc0 58 11) = 1 ∧ xR rc0 58 11 ≠ 0 := g11
  have g12 : xN rc0 (xR rc0 58 12) = 1 ∧ xR rc0 58 12 ≠ 0 := g12
  refine ⟨⟨⟨sh, by rw [s2]; exact rc_s.1, et, T0_A⟩, fun i hi => ?_, rm, T0_L, T0_D⟩, ⟨Or.inl (by rw [s8 53 (by decide)]; exact f9), Or.inl (by rw [s8 43 (by decide)]; exact f7), Or.inl (by rw [s8 49 (by decide)]; exact f8), Or.inl (by rw [s8 58 (by decide)]; exact f11), ?_⟩, ⟨Nat.zero_le _, by rw [s8 58 (by decide)]; exact f10, fun i hi => absurd hi (Nat.not_lt_zero _)⟩, ⟨0, by decide, Nat.zero_le _, by rw [s8 40 (by decide)]; exact f5, by rw [s8 40 (by decide)]; exact f6, fun k hk => absurd hk (Nat.not_lt_zero _)⟩, ⟨by rw [s8 4 (by decide)]; exact f3, fun s _ z => (by cases z)⟩, ⟨Nat.zero_le _, by rw [s8 4 (by decide)]; exact f1, fun i hi => absurd hi (Nat.not_lt_zero _)⟩, by rw [s8 4 (by decide)]; exact f2, ?_, ⟨0, by decide, by rw [s8 6 (by decide)]; exact f4⟩, fun g hg => ⟨0, by decide, ?_⟩, fun g hg => ⟨0, by decide, ?_⟩⟩
  · rw [s8 39 (by decide), rc_0 39 (by decide) i (by omega)]
    exact (T0_row i hi).symm
  · rw [s2, s7 _ g11.2, s7 _ g12.2, g11.1, g12.1]
  · intro w hw
    rw [s3]
    exact rc_w.1 w hw
  · rw [s8 15 (by decide)]; exact rc_0 15 (by decide) g (by omega)
  · rw [s8 25 (by decide)]; exact rc_0 25 (by decide) g (by omega)
/-- both sides begin alike -/
theorem c_new2 (kk : ∀ h, CI T0 14 (setS T0 (tR T0)) 0 f (fun _ => false) hf 0 q 0 b (-1) h → RI T0 0 (setS T0 (tR T0)) 0 f (fun _ => false) hf 0 q 0 b (-1) h → xI h 0 = xI (rH3 L xs) 0 → xN h 0 = xN (rH3 L xs) 0 → xK h 0 = xK (rH3 L xs) 0 → Q .null h) : Ev 158 790 [.ref 69] [] (rH3 L xs) Q := by
  have I0 := i_CI (L := L) (xs := xs) (f := f) (hf := hf) (q := q) (b := b)
  have sh := i_sh (L := L) (xs := xs)
  obtain ⟨s1, s2, s3, s4, s5, s6, s7, s8⟩ := rc_sim (L := L) (xs := xs)
  generalize rH3 L xs = h at kk I0 sh s1 s2 s3 s4 s5 s6 s7 s8 ⊢
  obtain ⟨f1, f2, f3, f4, f5, f6, f7, f8, f9, f10, f11, f12⟩ := rc_4
  obtain ⟨g1, g2, g3, g4, g5, g6, g7, g8⟩ := rc_69
  have v : ∀ c, c ∈ [79, 84, 92, 93] → rt h c 0 = nI 0 := by
    intro c hc
    simp only [List.mem_cons, List.not_mem_nil, or_false] at hc
    unfold rt
    rw [if_pos (by omega), s8 c (by omega)]
    rcases hc with z | z | z | z <;> subst z
    · exact rc_0 79 (by decide) 0 (by decide)
    · exact rc_0 84 (by decide) 0 (by decide)
    · exact rc_0 92 (by decide) 0 (by decide)
    · exact rc_0 93 (by decide) 0 (by decide)
  have v83 : rt h 83 0 = nI 1 := by
    unfold rt
    rw [if_pos (by omega), s8 83 (by decide)]
    exact f12
  have tie : TieS T0 (rt h) 0 := by
    intro J ag
    have w1 : ∀ c, wd c = 1 → J c 0 = rt h c 0 := fun c hc => ag c 0 (by rw [hc]; decide) (by rw [hc]; decide)
    exact T0_tie rfl (by rw [w1 79 (by decide)]; exact v 79 (by decide)) (by rw [w1 83 (by decide)]; exact v83) (by rw [w1 84 (by decide)]; exact v 84 (by decide)) (by rw [w1 92 (by decide)]; exact v 92 (by decide)) (by rw [w1 93 (by decide)]; exact v 93 (by decide))
  have v18 : xI h 69 18 = nI 0 := by rw [s8 69 (by decide)]; exact g3
  refine e_al o_158_790 rfl ?_
  refine e_clV (as := [.ref 69]) (rest := []) (K := fun h1 => Sh h1 ∧ Gx SX [58, 61] h h1 ∧ rq (xI h1 109) (setS T0 (tR T0))) o_158_791 rfl rfl (x_okd cl_158_161 ml_161 (Nat.le_of_ble_eq_true rfl) (Nat.le_of_ble_eq_true rfl)) (x_rc0 (ci := 9) (sk_69 sh) mo_161) (B_161_0 sh (c_beg0 (T := T0) (l := 0) ⟨sh, v18, tie.tie, T0_A⟩ (fun h1 x1 r1 => ⟨x1.sh sh (by decide), rfl, x1.sh sh (by decide), x1, r1⟩))) ?_
  rintro h1 ⟨sh1, x1, r1⟩
  refine e_al o_158_794 rfl ?_
  refine e_clV (as := [.ref 69]) (rest := []) (K := fun h2 => Gx [108] [] h1 h2 ∧ rq (xI h2 108) (setS T0 (tR T0))) o_158_795 rfl rfl (x_okd cl_158_174 ml_174 (Nat.le_of_ble_eq_true rfl) (Nat.le_of_ble_eq_true rfl)) (x_rc0 (ci := 9) (sk_69 sh1) mo_174) (c_keepR sh1 r1 (fun h2 x2 r2 => ⟨x2, r2⟩)) ?_
  rintro h2 ⟨x2, r2⟩
  refine e_ret0 o_158_798 ?_
  have X : Gx [106, 107, 108, 109, 110, 111] [58, 61] h h2 := (x1.mono (by decide) (by decide)).tr (x2.mono (by decide) (by decide))
  have sh2 := X.sh sh (by decide)
  have e69 : ∀ j, j ∉ [58, 61] → xI h2 69 j = xI rc0 69 j := fun j hj => by rw [X.f hj, s8 69 (by decide)]
  have kr : KR h h2 := X.kr (by decide)
  refine kk h2 (I0.kr kr) ⟨⟨sh2, by rw [e69 18 (by decide)]; exact g3, by rw [rt_gx X (by decide)]; exact tie, T0_A⟩, r2, ⟨Nat.zero_le _, by rw [e69 65 (by decide)]; exact g4, fun k hk => absurd hk (Nat.not_lt_zero _)⟩, fun s hs => ⟨?_, fun z => (by cases z)⟩, ⟨Nat.zero_le _, by rw [e69 71 (by decide)]; exact g5, fun i hi => absurd hi (Nat.not_lt_zero _)⟩, ⟨Nat.zero_le _, by rw [e69 2 (by decide)]; exact g1, fun i hi => absurd hi (Nat.not_lt_zero _)⟩, by rw [e69 17 (by decide)]; exact g2, fun k hk => ?_⟩ (Lx.at kr (by decide)) (by rw [kr.2.2.2.1]) (by rw [kr.2.2.1])
  · rw [X.at (by decide) (by decide), s8 122 (by decide)]
    have : s = 0 ∨ s = 1 ∨ s = 2 := by omega
    rcases this with z | z | z <;> subst z
    · exact g6
    · exact g7
    · exact g8
  · rw [X.1.2.1, s3]
    exact rc_w.2 k hk
end BEG

/-! WHAT IS DONE: how each side's knowledge goes on -/
def BV (x : Int32) : Prop := ∃ k, k < 256 ∧ x = sx k
theorem BV_8 (x : Int32) : BV x.toInt8.toInt32 := by
  refine ⟨x.toInt8.toBitVec.toNat, x.toInt8.toBitVec.isLt, ?_⟩
  unfold sx
  congr 1
  apply Int8.toBitVec_inj.mp
  rw [Int32.toBitVec_toInt8, Int32.toBitVec_toInt8, BitVec.signExtend_eq_setWidth_of_le _ (by decide), BitVec.signExtend_eq_setWidth_of_le _ (by decide)]
  have e : (nI (x.toBitVec.setWidth 8).toNat).toBitVec = BitVec.ofNat 32 (x.toBitVec.setWidth 8).toNat := rfl
  rw [e]
  apply BitVec.eq_of_toNat_eq
  have l := (x.toBitVec.setWidth 8).isLt
  clear e
  generalize (BitVec.setWidth 8 x.toBitVec).toNat = y at l ⊢
  rw [BitVec.toNat_setWidth, BitVec.toNat_ofNat, Nat.mod_eq_of_lt (show y < 2 ^ 32 by omega), Nat.mod_eq_of_lt l]
theorem tpB_of {b : Nat → Int32} {n : Nat} (h : ∀ i, i < n → BV (b i)) : ∃ B, tpB b n B := by
  have h' : ∀ i, ∃ k, k < 256 ∧ (i < n → b i = sx k) := by
    intro i
    by_cases q : i < n
    · obtain ⟨k, h1, h2⟩ := h i q
      exact ⟨k, h1, fun _ => h2⟩
    · exact ⟨0, by decide, fun z => absurd z q⟩
  obtain ⟨B, hB⟩ := Classical.axiomOfChoice h'
  exact ⟨B, fun i => (hB i).1, fun i hi => (hB i).2 hi⟩
theorem tpB_bv {b : Nat → Int32} {n : Nat} {B : Nat → Nat} (h : tpB b n B) : ∀ i, i < n → BV (b i) := fun i hi => ⟨B i, h.1 i, h.2 i hi⟩
theorem pb_bv {b : Nat → Int32} {n : Nat} {w : Int32} (h : ∀ i, i < n → BV (b i)) : ∀ i, i < n + 4 → BV (pb b n w i) := by
  intro i hi
  unfold pb
  by_cases q3 : i = n + 3
  · rw [q3, up_same]; exact BV_8 _
  · rw [up_ne q3]
    by_cases q2 : i = n + 2
    · rw [q2, up_same]; exact BV_8 _
    · rw [up_ne q2]
      by_cases q1 : i = n + 1
      · rw [q1, up_same]; exact BV_8 _
      · rw [up_ne q1]
        by_cases q0 : i = n
        · rw [q0, up_same]; exact BV_8 _
        · rw [up_ne q0]; exact h i (by omega)
theorem fd_bv {b : Nat → Int32} {n : Nat} {a1 a2 a3 a4 a5 : Int32} (h : ∀ i, i < n → BV (b i)) : ∀ i, i < n + 20 → BV (fd5 b n a1 a2 a3 a4 a5 i) := by
  unfold fd5
  exact pb_bv (pb_bv (pb_bv (pb_bv (pb_bv h))))
section CHG
variable {T : Nat → Nat → Int32} {c l : Nat} {h h1 : XH} {r r' : Nat → Int32} {n sn tl n' sn' tl' : Nat} {f hf f' hf' : Nat → Nat → Int32} {hb hb' : Nat → Bool} {q q' : Nat → Nat × Nat × Nat} {b b' : Nat → Int32} {pl : Int32} {S F : List Nat}
theorem CI.tp (I : CI T c r n f hb hf sn q tl b pl h) (o : Ox [5] [1] h h1) (t : TP tl' b' h1) : CI T c r n f hb hf sn q tl' b' pl h1 ∧ KC h h1 := by
  obtain ⟨⟨i1, i2, i3, i4, i5⟩, ⟨a1, a2, a3, a4⟩, s1, p1, c1, t1, l1, w1, w2⟩ := I
  obtain ⟨F, e4⟩ := o
  have s := i1.1
  have P : Hx [4, 5] [] h h1 := F.hx s (by decide)
  have hG0 : ∀ q ∈ ([] : List (Nat × Nat)), q ∈ GK := fun q hq => (by cases hq)
  have e58 : xI h1 58 = xI h 58 := P.at s (by decide) (by decide) hG0 (by decide)
  have cm : CM T c h1 := by
    have c2 := i1.c2
    have e34 : xR h 34 0 = c := i1.2.1
    refine ⟨P.1, by rw [F.1]; exact i1.2.1, ?_, i1.2.2.2⟩
    rw [← i1.2.2.1]
    funext k
    unfold tx
    rw [F.1, e34]
    by_cases hk : k ≤ 9
    · rw [if_pos hk, if_pos hk]
      exact F.at (by simp only [List.mem_cons, List.not_mem_nil, or_false]; omega)
    · rw [if_neg hk, if_neg hk]
  refine ⟨⟨⟨cm, ?_, P.2.2.2.2.1 i3, i4, i5⟩, ⟨a1.hx s P hG0 (by decide), a2.hx s P (fun x hx => (by cases hx)) (by decide), a3.hx s P (fun x hx => (by cases hx)) (by decide), a4.hx s P (by rw [e58]) (fun x hx => (by cases hx)) (by decide)⟩, s1.hx s P (by rw [e58]) hG0 (by decide), p1.hx s P hG0 (by decide), c1.hx s P (e4 10 (by decide)) hG0 (by decide), t, by rw [e4 2 (by decide)]; exact l1, w1.hx s P hG0 (by decide), w2.hx s P hG0 (by decide)⟩, P.kc s (by decide) hG0⟩
  rw [P.at s (by decide) (by decide) hG0 (by decide)]
  exact i2
theorem CI.see (I : CI T c r n f hb hf sn q tl b pl h) (F : Fx [58, 59, 60, 61] h h1) (e : ∀ j, j ≠ 0 → xI h1 58 j = xI h 58 j) (S : SNc T h1 sn' q') : CI T c r n f hb hf sn' q' tl b pl h1 ∧ KC h h1 := by
  obtain ⟨⟨i1, i2, i3, i4, i5⟩, ⟨a1, a2, a3, a4⟩, s1, p1, c1, t1, l1, w1, w2⟩ := I
  have s := i1.1
  have P : Hx [58, 59, 60, 61] [] h h1 := F.hx s (by decide)
  have hG0 : ∀ q ∈ ([] : List (Nat × Nat)), q ∈ GK := fun q hq => (by cases hq)
  have e4 : xI h1 4 = xI h 4 := P.at s (by decide) (by decide) hG0 (by decide)
  refine ⟨⟨⟨i1.fx F (by decide), ?_, P.2.2.2.2.1 i3, i4, i5⟩, ⟨a1.hx s P hG0 (by decide), a2.hx s P (fun x hx => (by cases hx)) (by decide), a3.hx s P (fun x hx => (by cases hx)) (by decide), a4.hx s P (e 7 (by decide)) (fun x hx => (by cases hx)) (by decide)⟩, S, p1.hx s P hG0 (by decide), c1.hx s P (by rw [e4]) hG0 (by decide), t1.hx s P (by rw [e4]) hG0 (by decide), by rw [e4]; exact l1, w1.hx s P hG0 (by decide), w2.hx s P hG0 (by decide)⟩, P.kc s (by decide) hG0⟩
  rw [P.at s (by decide) (by decide) hG0 (by decide)]
  exact i2
theorem CI.hd (I : CI T c r n f hb hf sn q tl b pl h) (F : Fx [4, 42] h h1) (e4 : ∀ j, j ≠ 10 → xI h1 4 j = xI h 4 j) (H : HC hb' hf' h1) : CI T c r n f hb' hf' sn q tl b pl h1 ∧ KC h h1 := by
  obtain ⟨⟨i1, i2, i3, i4, i5⟩, ⟨a1, a2, a3, a4⟩, s1, p1, c1, t1, l1, w1, w2⟩ := I
  have s := i1.1
  have P : Hx [4, 42] [] h h1 := F.hx s (by decide)
  have hG0 : ∀ q ∈ ([] : List (Nat × Nat)), q ∈ GK := fun q hq => (by cases hq)
  have e58 : xI h1 58 = xI h 58 := P.at s (by decide) (by decide) hG0 (by decide)
  have cm : CM T c h1 := by
    have c2 := i1.c2
    have e34 : xR h 34 0 = c := i1.2.1
    refine ⟨P.1, by rw [F.1]; exact i1.2.1, ?_, i1.2.2.2⟩
    rw [← i1.2.2.1]
    funext k
    unfold tx
    rw [F.1, e34]
    by_cases hk : k ≤ 9
    · rw [if_pos hk, if_pos hk]
      exact F.at (by simp only [List.mem_cons, List.not_mem_nil, or_false]; omega)
    · rw [if_neg hk, if_neg hk]
  refine ⟨⟨⟨cm, ?_, P.2.2.2.2.1 i3, i4, i5⟩, ⟨a1.hx s P hG0 (by decide), a2.hx s P (fun x hx => (by cases hx)) (by decide), a3.hx s P (fun x hx => (by cases hx)) (by decide), a4.hx s P (by rw [e58]) (fun x hx => (by cases hx)) (by decide)⟩, s1.hx s P (by rw [e58]) hG0 (by decide), p1.hx s P hG0 (by decide), H, t1.hx s P (e4 1 (by decide)) hG0 (by decide), by rw [e4 2 (by decide)]; exact l1, w1.hx s P hG0 (by decide), w2.hx s P hG0 (by decide)⟩, P.kc s (by decide) hG0⟩
  rw [P.at s (by decide) (by decide) hG0 (by decide)]
  exact i2
theorem CI.nw (I : CI T c r n f hb hf sn q tl b pl h) (N : Nw T c n' f' r' h h1) : CI T c r' n' f' hb hf sn q tl b pl h1 ∧ KC h h1 := by
  obtain ⟨⟨i1, i2, i3, i4, i5⟩, ⟨a1, a2, a3, a4⟩, s1, p1, c1, t1, l1, w1, w2⟩ := I
  obtain ⟨F, n1, n2, n3, n4, n5, n6⟩ := N
  have s := i1.1
  have P : Hx SD [] h h1 := F.hx s (by decide)
  have hG0 : ∀ q ∈ ([] : List (Nat × Nat)), q ∈ GK := fun q hq => (by cases hq)
  have e4 : xI h1 4 = xI h 4 := P.at s (by decide) (by decide) hG0 (by decide)
  have e58 : xI h1 58 = xI h 58 := P.at s (by decide) (by decide) hG0 (by decide)
  exact ⟨⟨⟨n1, n2, P.2.2.2.2.1 i3, i4, i5⟩, ⟨Or.inl n6, Or.inl n4, Or.inl n5, a4.hx s P (by rw [e58]) (fun x hx => (by cases hx)) (by decide)⟩, s1.hx s P (by rw [e58]) hG0 (by decide), n3, c1.hx s P (by rw [e4]) hG0 (by decide), t1.hx s P (by rw [e4]) hG0 (by decide), by rw [e4]; exact l1, w1.hx s P hG0 (by decide), w2.hx s P hG0 (by decide)⟩, P.kc s (by decide) hG0⟩
theorem RI.tp (i : RI T l r n f hb hf sn q tl b pl h) (g : Gx [70] [2] h h1) (t : TR tl' b' h1) : RI T l r n f hb hf sn q tl' b' pl h1 ∧ KR h h1 := by
  obtain ⟨⟨i1, i2, i3, i4⟩, i5, i6, i7, i8, i9, i10, i11⟩ := i
  refine ⟨⟨⟨g.sh i1 (by decide), by rw [g.f (by decide)]; exact i2, by rw [rt_gx g (by decide)]; exact i3, i4⟩, by rw [g.at (by decide) (by decide)]; exact i5, ?_, ?_, i8.gx g (by decide) (by decide), t, by rw [g.f (by decide)]; exact i10, ?_⟩, g.kr (by decide)⟩
  · unfold PR
    rw [g.f (by decide), g.at (by decide) (by decide)]
    exact i6
  · unfold HR
    rw [g.at (a := 122) (by decide) (by decide), g.at (a := 123) (by decide) (by decide)]
    exact i7
  · unfold KD
    rw [g.1.2.1]
    exact i11
theorem RI.see (i : RI T l r n f hb hf sn q tl b pl h) (g : Gx [118, 119, 120] [71] h h1) (S : SNr T h1 sn' q') : RI T l r n f hb hf sn' q' tl b pl h1 ∧ KR h h1 := by
  obtain ⟨⟨i1, i2, i3, i4⟩, i5, i6, i7, i8, i9, i10, i11⟩ := i
  refine ⟨⟨⟨g.sh i1 (by decide), by rw [g.f (by decide)]; exact i2, by rw [rt_gx g (by decide)]; exact i3, i4⟩, by rw [g.at (by decide) (by decide)]; exact i5, ?_, ?_, S, ?_, by rw [g.f (by decide)]; exact i10, ?_⟩, g.kr (by decide)⟩
  · unfold PR
    rw [g.f (by decide), g.at (by decide) (by decide)]
    exact i6
  · unfold HR
    rw [g.at (a := 122) (by decide) (by decide), g.at (a := 123) (by decide) (by decide)]
    exact i7
  · unfold TR
    rw [g.f (by decide), g.at (by decide) (by decide)]
    exact i9
  · unfold KD
    rw [g.1.2.1]
    exact i11
theorem RI.hd (i : RI T l r n f hb hf sn q tl b pl h) (g : Gx [122, 123] [] h h1) (H : HR hb' hf' h1) : RI T l r n f hb' hf' sn q tl b pl h1 ∧ KR h h1 := by
  obtain ⟨⟨i1, i2, i3, i4⟩, i5, i6, i7, i8, i9, i10, i11⟩ := i
  refine ⟨⟨⟨g.sh i1 (by decide), by rw [g.f (by decide)]; exact i2, by rw [rt_gx g (by decide)]; exact i3, i4⟩, by rw [g.at (by decide) (by decide)]; exact i5, ?_, H, i8.gx g (by decide) (by decide), ?_, by rw [g.f (by decide)]; exact i10, ?_⟩, g.kr (by decide)⟩
  · unfold PR
    rw [g.f (by decide), g.at (by decide) (by decide)]
    exact i6
  · unfold TR
    rw [g.f (by decide), g.at (by decide) (by decide)]
    exact i9
  · unfold KD
    rw [g.1.2.1]
    exact i11
theorem RI.nw (i : RI T l r n f hb hf sn q tl b pl h) (g : Gx SKp [58, 61, 65] h h1) (hr : rq (xI h1 108) r') (P : PR n' f' h1) : RI T l r' n' f' hb hf sn q tl b pl h1 ∧ KR h h1 := by
  obtain ⟨⟨i1, i2, i3, i4⟩, i5, i6, i7, i8, i9, i10, i11⟩ := i
  refine ⟨⟨⟨g.sh i1 (by decide), by rw [g.f (by decide)]; exact i2, by rw [rt_gx g (by decide)]; exact i3, i4⟩, hr, P, ?_, i8.gx g (by decide) (by decide), ?_, by rw [g.f (by decide)]; exact i10, ?_⟩, g.kr (by decide)⟩
  · unfold HR
    rw [g.at (a := 122) (by decide) (by decide), g.at (a := 123) (by decide) (by decide)]
    exact i7
  · unfold TR
    rw [g.f (by decide), g.at (by decide) (by decide)]
    exact i9
  · unfold KD
    rw [g.1.2.1]
    exact i11
theorem rOk_fu {j m : Nat} (ro : rOk T r) (f8 : tn (T 0 0) ≤ 8) (hj : j < tn (T 0 0)) (hm : m ≤ tn (T 1 j)) : rOk T (up r j (nI m)) := by
  obtain ⟨⟨r1, r1'⟩, r2, r3⟩ := ro
  refine ⟨⟨fun p hp => by rw [up_ne (by omega)]; exact r1 p hp, fun p hp z => by rw [up_ne (by omega)]; exact r1' p hp z⟩, fun g hg => ?_, fun g h1 h2 => by rw [up_ne (by omega)]; exact r3 g h1 h2⟩
  by_cases z : g = j
  · rw [z, up_same]; exact ⟨m, hm, rfl⟩
  · rw [up_ne z]; exact r2 g hg
theorem CO.nw (O : CO T r n f hb hf tl b) (hr : rOk T r') : CO T r' (n50 n) (pus r f) hb hf tl b := by
  obtain ⟨o1, o2, o3, o4⟩ := O
  refine ⟨hr, fun k hk => ?_, o3, o4⟩
  cases k with
  | zero => exact o1
  | succ k =>
    refine o2 k ?_
    unfold n50 at hk
    split at hk <;> omega
end CHG

/-! WHAT HOLDS BEFORE THE FIRST CALL -/
section INI
variable {L : Nat} {xs : Nat → Int32}
theorem i_sh : Sh (rH3 L xs) := by
  obtain ⟨s1, s2, s3, s4, s5, s6, s7, s8⟩ := rc_sim (L := L) (xs := xs)
  have z := rc_z (L := L) (xs := xs)
  have t := rc_T
  generalize rH3 L xs = h at s1 s2 s3 s4 s5 s6 s7 s8 z ⊢
  refine ⟨fun q hq => by rw [s1]; exact rc_K q hq, fun q hq => by rw [s7 _ (rc_N q hq).2]; exact (rc_N q hq).1, fun q hq => by rw [s2]; exact rc_R q hq, Or.inl (by rw [s2]; exact rc_s), fun q hq => ?_, fun q hq q' hq' e => ?_, by rw [s4, t.1]; exact Nat.le_refl _, ⟨by rw [s1]; exact t.2.2.1, by rw [s7 1 (by decide)]; exact t.2.2.2, by rw [s8 1 (by decide)]; exact rc_5⟩, z⟩
  · rw [s1, s2, s4]
    have := rc_G q hq
    exact ⟨this.1, Or.inl this.2.1, this.2.2⟩
  · rw [s2] at e
    exact rc_g q hq q' hq' e
theorem i_rm : RmOk (rH3 L xs) := by
  obtain ⟨s1, s2, s3, s4, s5, s6, s7, s8⟩ := rc_sim (L := L) (xs := xs)
  have t := rc_T
  generalize rH3 L xs = h at s1 s2 s3 s4 s5 s6 s7 s8 ⊢
  have g : ∀ q ∈ shG, gl h q = 1 := by
    intro q hq
    unfold gl
    rw [s2, s7 _ (rc_Gl q hq).2]
    exact (rc_Gl q hq).1
  refine ⟨by rw [s5]; have := t.2.1; omega, by rw [s4, t.1]; omega, fun q hq => ?_⟩
  rw [g q hq]
  unfold okL
  have p1 : p2 1 := ⟨0, by decide, rfl⟩
  split
  · exact Or.inl rfl
  · split
    · exact Or.inl rfl
    · exact p1
def T0 : Nat → Nat → Int32 := fun k => if k ≤ 9 then xI rc0 (14 + k) else fun _ => 0
theorem T0_0 : T0 0 = xI rc0 14 := rfl
theorem T0_c {k : Nat} (hk : k ≤ 9) : T0 k = xI rc0 (14 + k) := if_pos hk
theorem T0_A : tA T0 := by
  obtain ⟨e0, e1, e2, e3, e4, e5, e6, e7, e8⟩ := rc_14
  have z6 : ∀ p, p < 6 → T0 6 p = nI 0 := fun p hp => rc_0 20 (by decide) p (by omega)
  have z7 : ∀ p, p < 6 → T0 7 p = nI 0 := fun p hp => rc_0 21 (by decide) p (by omega)
  have z1 : ∀ f, f < 8 → T0 1 f = nI 0 := fun f hf => rc_0 15 (by decide) f (by omega)
  have e0 : T0 0 0 = nI 0 := e0
  have e1 : T0 0 1 = nI 0 := e1
  have e2 : T0 0 2 = nI 0 := e2
  have e4 : T0 0 4 = nI 0 := e4
  have e5 : T0 0 5 = nI 0 := e5
  have e6 : T0 0 6 = nI 1 := e6
  have e7 : T0 0 7 = nI 0 := e7
  have e8 : T0 0 8 = nI 1 := e8
  have n0 : tn (T0 0 0) = 0 := by rw [e0]; rfl
  have n1 : tn (T0 0 1) = 0 := by rw [e1]; rfl
  have n7 : tn (T0 0 7) = 0 := by rw [e7]; rfl
  have cv : cvT T0 := ⟨⟨by rw [n7]; exact Nat.zero_le _, fun i hi => by rw [n7] at hi; exact absurd hi (Nat.not_lt_zero _)⟩, by rw [e7]; decide⟩
  refine ⟨⟨⟨cv.c, ⟨by rw [n1]; exact e1, by rw [n1]; exact Nat.zero_le _⟩, fun p hp => ?_⟩, fun p hp c hc _ => ?_, fun p c r r' hp hc => ?_⟩, cv, ⟨by rw [n0]; exact e0, by rw [n0]; exact Nat.zero_le _⟩, fun f hf => ?_, ⟨fun p hp => ?_, fun p hp => ?_, fun f hf => ?_⟩, ⟨0, by decide, e2⟩, ⟨?_, ?_, fun f hf => ?_⟩, ⟨fun f hf => ?_, ?_, ?_, Or.inr e8, fun _ => ⟨e2, fun i hi => ?_⟩⟩⟩
  · rw [z6 p hp]; exact ⟨rfl, by decide⟩
  · unfold lo
    rw [z7 p hp]
    exact decide_eq_false (fun z => z ((bit_z (by omega)).mpr gb_0))
  · rw [z6 p hp] at hc; exact absurd hc (Nat.not_lt_zero _)
  · rw [z1 f hf]; decide
  · rw [n1] at hp; exact absurd hp (Nat.not_lt_zero _)
  · rw [n1] at hp; exact absurd hp (Nat.not_lt_zero _)
  · rw [n0] at hf; exact absurd hf (Nat.not_lt_zero _)
  · rw [n0]; show 1 ≤ 2000; decide
  · rw [n0]; exact e6
  · rw [n0] at hf; exact absurd hf (Nat.not_lt_zero _)
  · rw [n0] at hf; exact absurd hf (Nat.not_lt_zero _)
  · rw [n0, e4]; rfl
  · rw [n0, e5]; rfl
  · rw [n7] at hi; exact absurd hi (Nat.not_lt_zero _)
theorem T0_L : tL T0 := fun p hp => ⟨0, by decide, rc_0 21 (by decide) p (by omega)⟩
theorem T0_n : tn (T0 0 0) = 0 ∧ tn (T0 0 1) = 0 := by
  obtain ⟨e0, e1, _⟩ := rc_14
  have e0 : T0 0 0 = nI 0 := e0
  have e1 : T0 0 1 = nI 0 := e1
  rw [e0, e1]
  exact ⟨rfl, rfl⟩
theorem T0_D : tDj T0 := fun f hf => by rw [T0_n.1] at hf; exact absurd hf (Nat.not_lt_zero _)
/-- the row before any text -/
theorem T0_row : EqR (setS T0 (tR T0)) (fun _ => 0) := by
  have er : tR T0 = fun _ => 0 := by
    funext i
    unfold tR
    rw [T0_n.1, if_neg (Nat.not_lt_zero _)]
    rfl
  rw [er]
  intro i hi
  unfold setS setR
  rw [T0_n.2]
  show (if stN T0 (fun _ => 0) 0 0 = up (fun _ => 0) 0 (shOf (fun _ => 0) 6 0) (1 - 1) then rw_end (fun _ => 0) 0 (nI (1 - 1)) 0 0 else _) i = 0
  rw [if_pos (by rfl)]
  unfold rw_end
  have k : ∀ i, i < 20 → up (up (up (up (fun _ => (0 : Int32)) 17 0) 18 (nI (1 - 1))) 19 0) 16 0 i = 0 := by decide +kernel
  exact k i hi
theorem T0_tie {l : Nat} (hl : l = 0) {J : Nat → Nat → Int32} (h79 : J 79 0 = nI 0) (h83 : J 83 0 = nI 1) (h84 : J 84 0 = nI 0) (h92 : J 92 0 = nI 0) (h93 : J 93 0 = nI 0) : Tie T0 J l := by
  subst hl
  obtain ⟨e0, e1, e2, e3, e4, e5, e6, e7, e8⟩ := rc_14
  refine ⟨by decide, ⟨by rw [h79]; exact e0.symm, by rw [h83]; exact e6.symm, by rw [h84]; exact e1.symm, by rw [h92]; exact e2.symm, by rw [h93]; exact e3.symm⟩, fun f hf => ?_, fun p hp => ?_⟩
  · rw [T0_n.1] at hf; exact absurd hf (Nat.not_lt_zero _)
  · rw [T0_n.2] at hp; exact absurd hp (Nat.not_lt_zero _)
end INI

/-! FEWEST: the class, the search -/
theorem bc_P {P Y : Nat} (hP : P ≤ 6) (hY : Y < 2 ^ P) : bc Y ≤ P := by
  have e : P + (6 - P) = 6 := by omega
  have q := cnt_more (f := bX Y) (n := P) (6 - P) (fun i hi _ => by
    cases hb : bX Y i with
    | true => exact absurd hb (bX_big hY hi)
    | false => rfl)
  rw [e] at q
  unfold bc
  rw [q]
  exact cnt_le P
section CFX
variable {T : Nat → Nat → Int32} {c m : Nat} {q : Nat → Nat × Nat × Nat} {h0 h : XH} {Q : Value → XH → Prop} {n X : Nat}
def tri (z c Y : Nat) : Prop := bc Y < z ∨ (bc Y = z ∧ Y < c)
def fI (T : Nat → Nat → Int32) (n : Nat) (h0 : XH) (z c : Nat) (h : XH) : Prop := Fx [xR h0 58 10] h0 h ∧ (∀ Y, Y < 2 ^ tn (T 0 1) → tri z c Y → ¬ pA T n Y) ∧ ∀ s, s < 15625 → xI h (xR h0 58 10) s = -1 ∨ ∃ Y, Y < 64 ∧ tri z c Y ∧ xI h (xR h0 58 10) s = nI Y
theorem fI_sk {z d : Nat} (I : fI T n h0 z d h) (hp : bc d = z → ¬ pA T n d) : fI T n h0 z (d + 1) h := by
  refine ⟨I.1, fun Y hY t => ?_, fun s hs => ?_⟩
  · by_cases e : Y = d
    · subst e
      rcases t with t | t
      · exact I.2.1 Y hY (Or.inl t)
      · exact hp t.1
    · refine I.2.1 Y hY ?_
      rcases t with t | t
      · exact Or.inl t
      · exact Or.inr ⟨t.1, by omega⟩
  · rcases I.2.2 s hs with a | ⟨Y, a, b, e⟩
    · exact Or.inl a
    · refine Or.inr ⟨Y, a, ?_, e⟩
      rcases b with b | b
      · exact Or.inl b
      · exact Or.inr ⟨b.1, by omega⟩
theorem l_set {z d : Nat} (A : CG T c m q h0) (Bn : BOn T h0 d) (hnd : n ≤ d) (l10 : 15625 ≤ xN h0 (xR h0 58 10)) (b10 : xN h0 (xR h0 58 10) ≤ 65536) (hz : z ≤ tn (T 0 1)) (kk : ∀ h1 o, Fx [xR h0 58 10] h0 h1 → isB T n o → Q (.int (bsI o)) h1) (next : ∀ h, fI T n h0 (z + 1) 0 h → Ev 152 35 [.ref 58, .int (nI n), .int (nI (tn (T 0 1))), .int (nI (z + 1)), .null] [] h Q) : ∀ (k y : Nat) (h : XH), y + k = 2 ^ tn (T 0 1) → fI T n h0 z y h → Ev 152 43 [.ref 58, .int (nI n), .int (nI (tn (T 0 1))), .int (nI z), .int (nI y)] [] h Q := by
  have s0 := A.1.1
  have p6 := A.1.p6
  have W2 : wN T ≤ 2000 := A.1.2.2.2.w.1
  have g4 := g_58 s0 (j := 10) (v := 66) (by decide)
  have hp6 : 2 ^ tn (T 0 1) ≤ 64 := (Nat.pow_le_pow_right (by decide) p6 : 2 ^ tn (T 0 1) ≤ 2 ^ 6)
  intro k
  induction k with
  | zero =>
    intro y h hk I
    have hs := I.1.sh s0 (by simp; omega)
    have e : y = 2 ^ tn (T 0 1) := by omega
    subst e
    refine B_152_43 hs ?_
    rw [sh1 p6, nI_1]
    refine ⟨fun _ => next h ⟨I.1, fun Y hY t => I.2.1 Y hY ?_, fun s hs' => ?_⟩, fun z => absurd (Int32.le_refl _) z⟩
    · rcases t with t | t
      · by_cases e : bc Y = z
        · exact Or.inr ⟨e, hY⟩
        · exact Or.inl (by omega)
      · exact absurd t.2 (by omega)
    · rcases I.2.2 s hs' with a | ⟨Y, a, b, e⟩
      · exact Or.inl a
      · exact Or.inr ⟨Y, a, Or.inl (by rcases b with b | b <;> omega), e⟩
  | succ k ih =>
    intro y h hk I
    have f := I.1
    have hs := f.sh s0 (by simp; omega)
    have pX : Hx [] [(58, 10)] h0 h := f.hxG s0 (by simp; omega) (fun a ha => Or.inr ⟨(58, 10), by simp, by simpa using ha⟩)
    have A' := A.hx10 pX
    have Bn' := (A.2.2.1.hx10 s0 pX (by intro a ha; cases ha)).2 d Bn
    have r10 : xR h 58 10 = xR h0 58 10 := by rw [f.1]
    have hN : xN h = xN h0 := f.2.2.2.1
    have e6 : xI h (xR h 34 0) 6 = nI (wN T) := by rw [A'.1.2.1, A'.1.t0]; exact A'.1.2.2.2.w.2.1
    have b6 : bc y ≤ 6 := cnt_le 6
    have h5 : 5 ^ z ≤ 5 ^ 6 := Nat.pow_le_pow_right (by decide) (by omega)
    have h5' : 5 ^ z ≤ 15625 := h5
    refine B_152_43 hs ?_
    rw [sh1 p6, nI_1, nI_1]
    refine ⟨fun z => absurd z (nI_ge (by omega) (by omega)), fun _ => c_bitCount hs (by omega) ⟨hs, fun v => ?_, fun v => ?_⟩⟩
    · exact ih (y + 1) h (by omega) (fI_sk I (fun e => absurd (by rw [e]) v))
    · have ez : bc y = z := (nI_eq (by omega) (by omega)).mp (Classical.not_not.mp v)
      rw [tn_nI (show z < 2 ^ 31 by omega), hs.2.2.2.2.2.2.2.1.2.2, five_n z (by omega), e6]
      refine ⟨inb (by omega) (by decide), fun u => ?_, fun u => ?_⟩
      · refine ih (y + 1) h (by omega) (fI_sk I (fun _ pa => ?_))
        have := pA_le pa
        rw [ez] at this
        exact absurd u (Int32.not_lt.mpr (nI_le this (by omega)))
      · refine c_parts (n := n) A' Bn' hnd (by omega) r10 (by rw [hN]; exact l10) (by rw [hN]; exact b10) (fun s hs' e => ?_) (fun h1 f1 ho => ⟨fun pa => ⟨f1.sh hs (by simp; omega), fun w => absurd w (by decide), fun _ => ?_⟩, fun pa => ⟨f1.sh hs (by simp; omega), fun _ => ?_, fun w => absurd rfl w⟩⟩)
        · rcases I.2.2 s hs' with a | ⟨Y, a, b, e'⟩
          · rw [a] at e
            have := nI_pos (n := y) (by omega)
            rw [← e] at this
            exact this (by decide)
          · rw [e'] at e
            have e := (nI_eq (by omega) (by omega)).mp e
            subst e
            rcases b with b | b <;> omega
        · refine kk h1 (some y) (f.tr f1) ⟨by omega, pa, fun Y hY pY => ?_⟩
          have := fun t => I.2.1 Y hY t pY
          by_cases g : bc y < bc Y
          · exact Or.inl g
          · by_cases g2 : bc Y < z
            · exact absurd (Or.inl g2) this
            · by_cases g3 : Y < y
              · exact absurd (Or.inr ⟨by omega, g3⟩) this
              · exact Or.inr ⟨by omega, by omega⟩
        · refine ih (y + 1) h1 (by omega) ?_
          have I2 := fI_sk I (fun _ => pa)
          refine ⟨f.tr f1, I2.2.1, fun s hs' => ?_⟩
          rcases ho s hs' with a | a
          · rw [a]; exact I2.2.2 s hs'
          · exact Or.inr ⟨y, by omega, Or.inr ⟨ez, by omega⟩, a⟩
theorem l_size {d : Nat} (A : CG T c m q h0) (Bn : BOn T h0 d) (hnd : n ≤ d) (l10 : 15625 ≤ xN h0 (xR h0 58 10)) (b10 : xN h0 (xR h0 58 10) ≤ 65536) (kk : ∀ h1 o, Fx [xR h0 58 10] h0 h1 → isB T n o → Q (.int (bsI o)) h1) : ∀ (k z : Nat) (h : XH), z + k = tn (T 0 1) + 1 → fI T n h0 z 0 h → Ev 152 35 [.ref 58, .int (nI n), .int (nI (tn (T 0 1))), .int (nI z), .null] [] h Q := by
  have s0 := A.1.1
  have p6 := A.1.p6
  have g4 := g_58 s0 (j := 10) (v := 66) (by decide)
  intro k
  induction k with
  | zero =>
    intro z h hk I
    have hs := I.1.sh s0 (by simp; omega)
    refine B_152_35 hs ⟨fun _ => kk h none I.1 (fun Y hY => I.2.1 Y hY (Or.inl ?_)), fun u => absurd (nI_lt (by omega) (by omega)) u⟩
    have := bc_P p6 hY
    omega
  | succ k ih =>
    intro z h hk I
    have hs := I.1.sh s0 (by simp; omega)
    refine B_152_35 hs ⟨fun u => absurd u (Int32.not_lt.mpr (nI_le (by omega) (by omega))), fun _ => ?_⟩
    exact l_set A Bn hnd l10 b10 (by omega) kk (fun h1 I1 => ih (z + 1) h1 (by omega) I1) (2 ^ tn (T 0 1)) 0 h (by omega) I
theorem c_fewP {d : Nat} {K : Int32 → XH → Prop} (A : CG T c m q h) (Bn : BOn T h d) (hnd : n ≤ d) (k : ∀ h1 o, Hx [] [(58, 10)] h h1 → CG T c m q h1 → isB T n o → K (bsI o) h1) : ClI 152 [.ref 58, .int (nI n)] h K := by
  have e1 : xI h (xR h 34 0) 1 = nI (tn (T 0 1)) := by rw [A.1.2.1, A.1.t0]; exact A.1.2.2.2.p
  refine B_152_0 A.1.1 ?_
  rw [e1]
  refine ClR.mono (c_marks (pc0 := 0) (v := -1) A (K := fun h2 => Ev 152 35 [.ref 58, .int (nI n), .int (nI (tn (T 0 1))), .int 0, .null] [] h2 (fun r h3 => ∃ v, r = .int v ∧ K v h3)) (fun h2 p2' A2 l10 b10 hm => ?_)) (fun u h2 z => ⟨z.1, z.2.1, ?_⟩)
  · obtain ⟨-, kB⟩ := A.2.2.1.hx10 A.1.1 p2' (by intro a ha; cases ha)
    have g10 := g_58 A2.1.1 (j := 10) (v := 66) (by decide)
    refine l_size A2 (kB d Bn) hnd l10 b10 (fun h3 o f3 hB => ⟨_, rfl, ?_⟩) (tn (T 0 1) + 1) 0 h2 (by omega) ⟨Fx.rf, fun Y hY t => absurd t (by unfold tri; omega), fun s hs => Or.inl (hm s hs)⟩
    have p3 : Hx [] [(58, 10)] h2 h3 := f3.hxG A2.1.1 (by simp; omega) (fun a ha => Or.inr ⟨(58, 10), by simp, by simpa using ha⟩)
    exact k h3 o (p2'.tr p3) (A2.hx10 p3) hB
  · exact B_152_25 z.2.2.1 z.2.2.2
theorem c_cFew {x y : Int32} {K : Int32 → XH → Prop} (A : CG T c m q h) (k : ∀ h1, Dx h h1 → CG T c m q h1 → K (oFew T x y) h1) : ClI 151 [.ref 4, .int x, .int y] h K := by
  have rfx : Dx h h := ⟨Hx.rf A.1.1, rfl⟩
  have p6 := A.1.p6
  have hp6 : 2 ^ tn (T 0 1) ≤ 64 := (Nat.pow_le_pow_right (by decide) p6 : 2 ^ tn (T 0 1) ≤ 2 ^ 6)
  unfold oFew at k
  refine B_151_0 A.1.1 (c_isBegun A.1.1 (fun n hn e => ⟨A.1.1, ?_⟩) (fun e => ⟨A.1.1, ?_⟩))
  · subst e
    rw [opN_1 hn (by omega)] at k
    try simp (disch := omega) only [lit, tn_nI, z_inb, nI_add, pk_mul, z_le, z_nle, z_lt, z_nlt, z_ne, z_m1, pk_sub, xI_ss, xI_sd, xI_n, eq_self, true_and, and_true, and_self, not_true_eq_false, not_false_eq_true, false_implies, true_implies, implies_true, Classical.not_not, forall_const, true_or, or_true, false_or, or_false, false_and, and_false, if_true, if_false, ite_true, ite_false, reduceIte, reduceCtorEq]
    refine c_oneTwo A.1.1 (fun j0 hj0 e => ⟨A.1.1, ?_⟩) (fun e => ⟨A.1.1, ?_⟩)
    · subst e
      rw [opN_1 hj0 (by omega)] at k
      try simp (disch := omega) only [lit, tn_nI, z_inb, nI_add, pk_mul, z_le, z_nle, z_lt, z_nlt, z_ne, z_m1, pk_sub, xI_ss, xI_sd, xI_n, eq_self, true_and, and_true, and_self, not_true_eq_false, not_false_eq_true, false_implies, true_implies, implies_true, Classical.not_not, forall_const, true_or, or_true, false_or, or_false, false_and, and_false, if_true, if_false, ite_true, ite_false, reduceIte, reduceCtorEq]
      refine c_reach A.1 A.2.1 A.2.2.1 (by omega) (fun h1 d b M1 r1 B1 Bn hnd => ⟨M1.1, ?_⟩)
      have A1 : CG T c m q h1 := ⟨M1, r1, B1, A.2.2.2.bx A.1.1 b⟩
      refine c_fewP A1 Bn hnd (fun h2 o p2' A2 hB => ⟨A2.1.1, ?_⟩)
      have k2 := k h2 (Dx.of A.1.1 b p2') A2
      rw [aFew_v hB] at k2
      cases o with
      | none => exact ⟨fun _ => ⟨_, rfl, k2⟩, fun z => absurd (show (-2 : Int32) < 0 by decide) z⟩
      | some X =>
        have hX := hB.1
        have k2 : K (if j0 = 1 then nI X else nI (bc X)) h2 := k2
        refine ⟨fun z => absurd z (nI_pos (by omega)), fun _ => ⟨fun z => ?_, fun z => ?_⟩⟩
        · rw [if_neg (fun y => z (by rw [y]))] at k2
          exact c_bitCount A2.1.1 (by omega) ⟨A2.1.1, _, rfl, k2⟩
        · rw [if_pos ((nI_eq (a := j0) (b := 1) (by omega) (by decide)).mp z)] at k2
          exact ⟨_, rfl, k2⟩
    · rw [opN_0 e] at k
      try simp (disch := omega) only [lit, tn_nI, z_inb, nI_add, pk_mul, z_le, z_nle, z_lt, z_nlt, z_ne, z_m1, pk_sub, xI_ss, xI_sd, xI_n, eq_self, true_and, and_true, and_self, not_true_eq_false, not_false_eq_true, false_implies, true_implies, implies_true, Classical.not_not, forall_const, true_or, or_true, false_or, or_false, false_and, and_false, if_true, if_false, ite_true, ite_false, reduceIte, reduceCtorEq]
      exact ⟨_, rfl, k h rfx A⟩
  · rw [opN_0 e] at k
    try simp (disch := omega) only [lit, tn_nI, z_inb, nI_add, pk_mul, z_le, z_nle, z_lt, z_nlt, z_ne, z_m1, pk_sub, xI_ss, xI_sd, xI_n, eq_self, true_and, and_true, and_self, not_true_eq_false, not_false_eq_true, false_implies, true_implies, implies_true, Classical.not_not, forall_const, true_or, or_true, false_or, or_false, false_and, and_false, if_true, if_false, ite_true, ite_false, reduceIte, reduceCtorEq]
    exact ⟨_, rfl, k h rfx A⟩
end CFX

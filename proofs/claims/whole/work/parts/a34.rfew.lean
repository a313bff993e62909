/-! FEWEST: the reference's best -/
def isBc (T : Nat → Nat → Int32) (n c : Nat) (o : Option Nat) : Prop := match o with
  | none => ∀ Y, Y < c → ¬ pA T n Y
  | some X => X < c ∧ pA T n X ∧ ∀ Y, Y < c → pA T n Y → bc X < bc Y ∨ (bc X = bc Y ∧ X ≤ Y)
theorem isBc_e {T : Nat → Nat → Int32} {n : Nat} {o : Option Nat} (h : isBc T n (2 ^ tn (T 0 1)) o) : isB T n o := by
  cases o with
  | none => exact h
  | some X => exact h
def bsI (o : Option Nat) : Int32 := match o with
  | none => -2
  | some X => nI X
theorem sh1 {P : Nat} (h : P ≤ 6) : (1 : Int32) <<< (nI P &&& 31) = nI (2 ^ P) := by
  have : ∀ P, P < 7 → (1 : Int32) <<< (nI P &&& 31) = nI (2 ^ P) := by decide +kernel
  exact this P (by omega)
theorem isBc_no {T : Nat → Nat → Int32} {n c : Nat} {o : Option Nat} (h : isBc T n c o) (hp : ¬ pA T n c) : isBc T n (c + 1) o := by
  cases o with
  | none =>
    intro Y hY
    by_cases e : Y = c
    · subst e; exact hp
    · exact h Y (by omega)
  | some X =>
    refine ⟨Nat.lt_succ_of_lt h.1, h.2.1, fun Y hY q => ?_⟩
    by_cases e : Y = c
    · subst e; exact absurd q hp
    · exact h.2.2 Y (by omega) q
theorem isBc_sk {T : Nat → Nat → Int32} {n c X : Nat} (h : isBc T n c (some X)) (hb : bc X ≤ bc c) : isBc T n (c + 1) (some X) := by
  have h1 := h.1
  refine ⟨Nat.lt_succ_of_lt h.1, h.2.1, fun Y hY q => ?_⟩
  by_cases e : Y = c
  · subst e; omega
  · exact h.2.2 Y (by omega) q
theorem isBc_n1 {T : Nat → Nat → Int32} {n c : Nat} (h : isBc T n c none) (hp : pA T n c) : isBc T n (c + 1) (some c) := by
  refine ⟨Nat.lt_succ_self c, hp, fun Y hY q => ?_⟩
  by_cases e : Y = c
  · subst e; exact Or.inr ⟨rfl, Nat.le_refl _⟩
  · exact absurd q (h Y (by omega))
theorem isBc_s1 {T : Nat → Nat → Int32} {n c X : Nat} (h : isBc T n c (some X)) (hp : pA T n c) (hb : bc c < bc X) : isBc T n (c + 1) (some c) := by
  refine ⟨Nat.lt_succ_self c, hp, fun Y hY q => ?_⟩
  by_cases e : Y = c
  · subst e; exact Or.inr ⟨rfl, Nat.le_refl _⟩
  · have := h.2.2 Y (by omega) q
    omega
section RFX
variable {T : Nat → Nat → Int32} {l : Nat} {h0 h : XH} {Q : Value → XH → Prop} {n : Nat}
theorem l_rfew {what : Nat} (M : RM T l h0) (hwh : what < 2) (h15 : ∀ w, w < wN T → xI h0 115 w = nI (bsh T w n)) (kk : ∀ h1, Gx [117] [] h0 h1 → Q (.int (aFew T n what)) h1) : ∀ (k c : Nat) (o : Option Nat) (h : XH), c + k = 2 ^ tn (T 0 1) → Gx [117] [] h0 h → isBc T n c o → Ev 254 29 [.ref 69, .null, .int (nI what), .int (bsI o), .int (nI c)] [] h Q := by
  have l2 := M.l2
  have p6 := M.p6
  have hp6 : 2 ^ tn (T 0 1) ≤ 64 := (Nat.pow_le_pow_right (by decide) p6 : 2 ^ tn (T 0 1) ≤ 2 ^ 6)
  intro k
  induction k with
  | zero =>
    intro c o h hk g hb
    have M' := M.gx g (by decide) (by decide)
    have e18 := M'.2.1
    have e1 := M'.np
    have e : c = 2 ^ tn (T 0 1) := by omega
    have hB := isBc_e (e ▸ hb)
    have k1 := kk h g
    rw [aFew_v hB] at k1
    refine B_254_29 M'.1 ?_
    rw [e18, tn_nI (show l < 2 ^ 31 by omega), e1, sh1 p6, e]
    refine ⟨inb (by omega) (by decide), fun _ => ?_, fun z => absurd (Int32.le_refl _) z⟩
    cases o with
    | none => exact ⟨fun _ => k1, fun z => absurd (show (-2 : Int32) < 0 by decide) z⟩
    | some X =>
      have hX := hb.1
      have k1 : Q (.int (if what = 1 then nI X else nI (bc X))) h := k1
      refine ⟨fun z => absurd z (nI_pos (by omega)), fun _ => ⟨fun z => ?_, fun z => ?_⟩⟩
      · rw [if_neg (fun y => z (by rw [y]; rfl))] at k1
        exact c_bits M'.1 (by omega) ⟨M'.1, k1⟩
      · rw [if_pos ((nI_eq (b := 1) (by omega) (by decide)).mp (Classical.not_not.mp z))] at k1
        exact k1
  | succ k ih =>
    intro c o h hk g hb
    have M' := M.gx g (by decide) (by decide)
    have e18 := M'.2.1
    have e1 := M'.np
    have f15 : ∀ w, w < wN T → xI h 115 w = nI (bsh T w n) := fun w hw => by rw [g.at (by decide) (by decide)]; exact h15 w hw
    refine B_254_29 M'.1 ?_
    rw [e18, tn_nI (show l < 2 ^ 31 by omega), e1, sh1 p6, nI_1]
    refine ⟨inb (by omega) (by decide), fun z => absurd z (nI_ge (by omega) (by omega)), fun _ => ?_⟩
    cases o with
    | none =>
      refine ⟨fun _ => ?_, fun z => absurd (show (-2 : Int32) < 0 by decide) z⟩
      refine c_tells (n := n) M' (by omega) f15 (fun h1 g1 => ?_)
      have gA : Gx [117] [] h0 h1 := g.trm g1 (by decide) (by decide) (by decide) (by decide)
      exact ⟨fun q => ⟨g1.sh M'.1 (by decide), fun z => absurd z (by decide), fun _ => ih (c + 1) (some c) h1 (by omega) gA (isBc_n1 hb q)⟩, fun q => ⟨g1.sh M'.1 (by decide), fun _ => ih (c + 1) none h1 (by omega) gA (isBc_no hb q), fun z => absurd rfl z⟩⟩
    | some X =>
      have hX := hb.1
      have b1 : bc X ≤ 6 := cnt_le 6
      have b2 : bc c ≤ 6 := cnt_le 6
      refine ⟨fun z => absurd z (nI_pos (by omega)), fun _ => ?_⟩
      refine c_bits M'.1 (by omega) ⟨M'.1, c_bits M'.1 (by omega) ⟨M'.1, fun z => ?_, fun z => ?_⟩⟩
      · refine ih (c + 1) (some X) h (by omega) g (isBc_sk hb ?_)
        by_cases y : bc X ≤ bc c
        · exact y
        · exact absurd z (nI_ge (by omega) (by omega))
      · have y : bc c < bc X := by
          by_cases y : bc X ≤ bc c
          · exact absurd (nI_le y (by omega)) z
          · omega
        refine c_tells (n := n) M' (by omega) f15 (fun h1 g1 => ?_)
        have gA : Gx [117] [] h0 h1 := g.trm g1 (by decide) (by decide) (by decide) (by decide)
        exact ⟨fun q => ⟨g1.sh M'.1 (by decide), fun z => absurd z (by decide), fun _ => ih (c + 1) (some c) h1 (by omega) gA (isBc_s1 hb q y)⟩, fun q => ⟨g1.sh M'.1 (by decide), fun _ => ih (c + 1) (some X) h1 (by omega) gA (isBc_no hb q), fun z => absurd rfl z⟩⟩
theorem c_rFew {x y : Int32} {K : Int32 → XH → Prop} (M : RM T l h) (k : ∀ h1, Gx ST2 [58, 61] h h1 → K (oFew T x y) h1) : ClI 254 [.ref 69, .int x, .int y] h K := by
  unfold oFew at k
  refine B_254_0 M.1 (c_isMonth M.1 (fun n hn e => ⟨M.1, ?_⟩) (fun e => ⟨M.1, ?_⟩))
  · subst e
    rw [opN_1 hn (by omega)] at k
    try simp (disch := omega) only [lit, tn_nI, z_inb, nI_add, pk_mul, z_le, z_nle, z_lt, z_nlt, z_ne, z_m1, pk_sub, xI_ss, xI_sd, xI_n, eq_self, true_and, and_true, and_self, not_true_eq_false, not_false_eq_true, false_implies, true_implies, implies_true, Classical.not_not, forall_const, true_or, or_true, false_or, or_false, false_and, and_false, if_true, if_false, ite_true, ite_false, reduceIte, reduceCtorEq]
    refine c_inM (m := 1) M.1 (by decide) (fun j0 hj0 e => ⟨M.1, ?_⟩) (fun e => ⟨M.1, ?_⟩)
    · subst e
      rw [opN_1 hj0 (by omega)] at k
      try simp (disch := omega) only [lit, tn_nI, z_inb, nI_add, pk_mul, z_le, z_nle, z_lt, z_nlt, z_ne, z_m1, pk_sub, xI_ss, xI_sd, xI_n, eq_self, true_and, and_true, and_self, not_true_eq_false, not_false_eq_true, false_implies, true_implies, implies_true, Classical.not_not, forall_const, true_or, or_true, false_or, or_false, false_and, and_false, if_true, if_false, ite_true, ite_false, reduceIte, reduceCtorEq]
      refine c_fillB M (by omega) (fun h1 g1 M1 e1 => ⟨M1.1, ?_⟩)
      exact l_rfew M1 hj0 e1 (fun h3 g3 => ⟨_, rfl, k h3 (g1.trm (S := ST2) (F := [58, 61]) g3 (by decide) (by decide) (by decide) (by decide))⟩) (2 ^ tn (T 0 1)) 0 none h1 (by omega) Gx.rf (fun Y hY => absurd hY (by omega))
    · rw [opN_0 e] at k
      try simp (disch := omega) only [lit, tn_nI, z_inb, nI_add, pk_mul, z_le, z_nle, z_lt, z_nlt, z_ne, z_m1, pk_sub, xI_ss, xI_sd, xI_n, eq_self, true_and, and_true, and_self, not_true_eq_false, not_false_eq_true, false_implies, true_implies, implies_true, Classical.not_not, forall_const, true_or, or_true, false_or, or_false, false_and, and_false, if_true, if_false, ite_true, ite_false, reduceIte, reduceCtorEq]
      exact ⟨_, rfl, k h Gx.rf⟩
  · rw [opN_0 e] at k
    try simp (disch := omega) only [lit, tn_nI, z_inb, nI_add, pk_mul, z_le, z_nle, z_lt, z_nlt, z_ne, z_m1, pk_sub, xI_ss, xI_sd, xI_n, eq_self, true_and, and_true, and_self, not_true_eq_false, not_false_eq_true, false_implies, true_implies, implies_true, Classical.not_not, forall_const, true_or, or_true, false_or, or_false, false_and, and_false, if_true, if_false, ite_true, ite_false, reduceIte, reduceCtorEq]
    exact ⟨_, rfl, k h Gx.rf⟩
end RFX

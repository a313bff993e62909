/-! NEXT: spec, and the class -/
noncomputable def cntP (P : Nat → Prop) : Nat → Nat
  | 0 => 0
  | m + 1 => @ite _ (P m) (Classical.propDecidable _) (cntP P m + 1) (cntP P m)
theorem cntP_1 {P : Nat → Prop} {m : Nat} (h : P m) : cntP P (m + 1) = cntP P m + 1 := by
  conv => lhs; unfold cntP
  exact if_pos h
theorem cntP_0 {P : Nat → Prop} {m : Nat} (h : ¬ P m) : cntP P (m + 1) = cntP P m := by
  conv => lhs; unfold cntP
  exact if_neg h
theorem cntP_le {P : Nat → Prop} : ∀ m, cntP P m ≤ m := by
  intro m
  induction m with
  | zero => exact Nat.le_refl _
  | succ m ih =>
    by_cases h : P m
    · rw [cntP_1 h]; omega
    · rw [cntP_0 h]; omega
theorem cntP_z {P : Nat → Prop} : ∀ m, cntP P m = 0 ↔ ∀ i, i < m → ¬ P i := by
  intro m
  induction m with
  | zero => exact ⟨fun _ i hi => absurd hi (by omega), fun _ => rfl⟩
  | succ m ih =>
    by_cases h : P m
    · rw [cntP_1 h]
      exact ⟨fun z => absurd z (by omega), fun z => absurd h (z m (by omega))⟩
    · rw [cntP_0 h, ih]
      refine ⟨fun z i hi => ?_, fun z i hi => z i (by omega)⟩
      by_cases e : i = m
      · subst e; exact h
      · exact z i (by omega)
/-- of those that fit, w of them looked at: how many have page p at s behind n days -/
noncomputable def gN (T : Nat → Nat → Int32) (q : Nat → Nat × Nat × Nat) (k n p s w : Nat) : Nat := cntP (fun v => fit T q k v ∧ dg (bsh T v n) p = s) w
def mx5 (g : Nat → Nat) : Nat → Nat
  | 0 => 0
  | s + 1 => if mx5 g s < g s then g s else mx5 g s
theorem mx5_ge {g : Nat → Nat} : ∀ m s, s < m → g s ≤ mx5 g m := by
  intro m
  induction m with
  | zero => intro s h; omega
  | succ m ih =>
    intro s hs
    unfold mx5
    by_cases e : s = m
    · subst e; split <;> omega
    · have := ih s (by omega)
      split <;> omega
theorem mx5_z {g : Nat → Nat} : ∀ m, (∀ s, s < m → g s = 0) → mx5 g m = 0 := by
  intro m
  induction m with
  | zero => intro _; rfl
  | succ m ih =>
    intro h
    unfold mx5
    rw [ih (fun s hs => h s (by omega)), h m (by omega)]
    rfl
theorem mx5_le {g : Nat → Nat} {b : Nat} : ∀ m, (∀ s, s < m → g s ≤ b) → mx5 g m ≤ b := by
  intro m
  induction m with
  | zero => intro _; exact Nat.zero_le _
  | succ m ih =>
    intro h
    have h1 := ih (fun s hs => h s (by omega))
    have h2 := h m (by omega)
    unfold mx5
    split <;> omega
noncomputable def mst (T : Nat → Nat → Int32) (q : Nat → Nat × Nat × Nat) (k n p : Nat) : Nat := mx5 (fun s => gN T q k n p s (wN T)) 5
noncomputable def nx (T : Nat → Nat → Int32) (q : Nat → Nat × Nat × Nat) (k n : Nat) : Nat → Nat → Option Nat → Option Nat
  | 0, _, b => b
  | j + 1, p, b => nx T q k n j (p + 1) (match b with
    | none => some p
    | some v => if mst T q k n p < mst T q k n v then some p else some v)
noncomputable def aNext (T : Nat → Nat → Int32) (q : Nat → Nat × Nat × Nat) (k n what : Nat) : Int32 := if cntP (fit T q k) (wN T) = 0 then -2 else match nx T q k n (tn (T 0 1)) 0 none with
  | none => -2
  | some v => if what = 0 then nI v else nI (mst T q k n v)
noncomputable def oNext (T : Nat → Nat → Int32) (m : Nat) (q : Nat → Nat × Nat × Nat) (x y z : Int32) : Int32 := opN x (m + 1) (-1) (fun k => opN y 31 (-1) (fun n => opN z 2 (-1) (fun w => aNext T q k n w)))
section NX
variable {T : Nat → Nat → Int32} {c m : Nat} {q : Nat → Nat × Nat × Nat} {h0 h : XH} {Q : Value → XH → Prop} {k n p : Nat}
theorem mst_le : mst T q k n p ≤ wN T := mx5_le 5 (fun s _ => cntP_le _)
theorem mst_0 (hz : cntP (fit T q k) (wN T) = 0) : mst T q k n p = 0 := mx5_z 5 (fun s _ => (cntP_z _).mpr (fun i hi z => (cntP_z _).mp hz i hi z.1))
theorem mst_1 (hz : ¬ cntP (fit T q k) (wN T) = 0) : 0 < mst T q k n p := by
  have : ∃ i, i < wN T ∧ fit T q k i := by
    apply Classical.byContradiction
    intro hno
    exact hz ((cntP_z _).mpr (fun i hi z => hno ⟨i, hi, z⟩))
  obtain ⟨i, hi, hf⟩ := this
  have hd := dg_le (s := bsh T i n) (p := p)
  have h1 := mx5_ge (g := fun s => gN T q k n p s (wN T)) 5 (dg (bsh T i n) p) (by omega)
  have h2 : gN T q k n p (dg (bsh T i n) p) (wN T) ≠ 0 := fun z => (cntP_z _).mp z i hi ⟨hf, rfl⟩
  unfold mst
  omega
/-- gone far enough for the first k, and for day n -/
def KM (T : Nat → Nat → Int32) (q : Nat → Nat × Nat × Nat) (k n : Nat) (h : XH) : Prop := ∃ m, BOn T h m ∧ n ≤ m ∧ ∀ i, i < k → (q i).2.1 ≤ m
theorem KM.kn (K : KM T q k n h) : KN T q k h := by
  obtain ⟨m, B, -, hall⟩ := K
  exact Or.inr ⟨m, B, hall⟩
theorem c_toKM {K : XH → Prop} (A : CG T c m q h) (hk : k ≤ m) (hn : n ≤ 30) (kk : ∀ h1, Bx h h1 → CG T c m q h1 → KM T q k n h1 → K h1) : ClI 142 [.ref 58, .int (nI k)] h (fun v h1 => Sh h1 ∧ ClV 127 [.ref 58, .int (if nI n < v then v else nI n)] h1 (fun h2 => Sh h2 ∧ K h2)) := by
  obtain ⟨M, rm, B, S⟩ := A
  refine B_142_0 M.1 (l_lk M.1 S hk ⟨_, rfl, M.1, ?_⟩ k 0 (by omega))
  have fin : ∀ d, d ≤ 30 → n ≤ d → (∀ i, i < k → (q i).2.1 ≤ d) → ClV 127 [.ref 58, .int (nI d)] h (fun h2 => Sh h2 ∧ K h2) := fun d hd hnd hall => c_reach M rm B hd (fun h1 m1 b M1 r1 B1 Bn hle => ⟨M1.1, kk h1 b ⟨M1, r1, B1, S.bx M.1 b⟩ ⟨m1, Bn, by omega, fun i hi => by have := hall i hi; omega⟩⟩)
  rcases lkI_n (q := q) k (fun i hi => (S.2.2 i (by omega)).2.2.2.2.1) with ⟨k0, e⟩ | ⟨d, hd, e, hall⟩
  · rw [e, if_neg (fun z => absurd (Int32.lt_of_lt_of_le z (show (-1 : Int32) ≤ 0 by decide)) (nI_pos (by omega)))]
    exact fin n hn (Nat.le_refl _) (fun i hi => absurd hi (by omega))
  · rw [e]
    by_cases z : n < d
    · rw [if_pos (nI_lt z (by omega))]
      exact fin d hd (by omega) hall
    · rw [if_neg (nI_nlt (by omega) (by omega))]
      exact fin n hn (Nat.le_refl _) (fun i hi => by have := hall i hi; omega)
theorem ar_63 (hs : Sh h) : Ar h 63 5 := ⟨sk_63 hs, sn_63 hs, by decide⟩
theorem CG.fx63 (A : CG T c m q h0) (f : Fx [63] h0 h) : CG T c m q h := by
  obtain ⟨M, rm, B, S⟩ := A
  have s := M.1
  have q8 := g_58 s (j := 8) (v := 64) (by decide)
  have q9 := g_58 s (j := 9) (v := 65) (by decide)
  have q11 := g_58 s (j := 11) (v := 67) (by decide)
  have q12 := g_58 s (j := 12) (v := 68) (by decide)
  refine ⟨M.fx f (by decide), (f.hx (G := []) s (by decide)).2.2.2.2.1 rm, ?_, ?_⟩
  · unfold BOk BOn CV at B ⊢
    rw [f.1, f.2.2.2.1, f.at (by decide), f.at (show xR h0 58 8 ∉ [63] by simp; omega), f.at (show xR h0 58 9 ∉ [63] by simp; omega), f.at (show xR h0 58 11 ∉ [63] by simp; omega), f.at (show xR h0 58 12 ∉ [63] by simp; omega), f.at (show 62 ∉ [63] by decide)]
    exact B
  · unfold SNc
    rw [f.at (by decide), f.at (by decide), f.at (by decide), f.at (by decide)]
    exact S
theorem KM.fx63 (s : Sh h0) (A : KM T q k n h0) (f : Fx [63] h0 h) : KM T q k n h := by
  have q8 := g_58 s (j := 8) (v := 64) (by decide)
  have q9 := g_58 s (j := 9) (v := 65) (by decide)
  have q11 := g_58 s (j := 11) (v := 67) (by decide)
  have q12 := g_58 s (j := 12) (v := 68) (by decide)
  unfold KM BOn CV at A ⊢
  rw [f.1, f.2.2.2.1, f.at (by decide), f.at (show xR h0 58 8 ∉ [63] by simp; omega), f.at (show xR h0 58 9 ∉ [63] by simp; omega), f.at (show xR h0 58 11 ∉ [63] by simp; omega), f.at (show xR h0 58 12 ∉ [63] by simp; omega), f.at (show 62 ∉ [63] by decide)]
  exact A
theorem l_mx (hs : Sh h) {g : Nat → Nat} {b : Nat} (hb : b < 2 ^ 31) (h63 : ∀ s, s < 5 → xI h 63 s = nI (g s)) (hg : ∀ s, s < 5 → g s ≤ b) (kk : Q (.int (nI (mx5 g 5))) h) : ∀ j s, s + j = 5 → Ev 150 77 [.ref 58, .null, .null, .null, .null, .int (nI (mx5 g s)), .int (nI s)] [] h Q := by
  intro j
  induction j with
  | zero =>
    intro s hj
    refine B_150_77 hs ?_
    try simp (disch := omega) only [lit, tn_nI, z_inb, nI_add, pk_mul, z_le, z_nle, z_lt, z_nlt, z_ne, z_m1, pk_sub, xI_ss, xI_sd, xI_n, eq_self, true_and, and_true, and_self, not_true_eq_false, not_false_eq_true, false_implies, true_implies, implies_true, Classical.not_not, forall_const, true_or, or_true, false_or, or_false, false_and, and_false, if_true, if_false, ite_true, ite_false, reduceIte, reduceCtorEq]
    rw [show s = 5 by omega]
    exact kk
  | succ j ih =>
    intro s hj
    have e := h63 s (by omega)
    have h1 := hg s (by omega)
    have h2 := mx5_le (g := g) (b := b) s (fun i hi => hg i (by omega))
    have nxx := ih (s + 1) (by omega)
    have em : mx5 g (s + 1) = if mx5 g s < g s then g s else mx5 g s := rfl
    refine B_150_77 hs ?_
    rw [tn_nI (show s < 2 ^ 31 by omega), e, nI_1]
    refine ⟨fun z => absurd z (nI_ge (a := s) (b := 5) (by omega) (by decide)), fun _ => ⟨inb (by omega) (by decide), ?_⟩⟩
    by_cases z : mx5 g s < g s
    · rw [if_pos (nI_lt z (by omega))]
      rw [em, if_pos z] at nxx
      exact nxx
    · rw [if_neg (nI_nlt (by omega) (by omega))]
      rw [em, if_neg z] at nxx
      exact nxx
theorem l_mst (A0 : CG T c m q h0) (hk : k ≤ m) (K0 : KM T q k n h0) (hn : n ≤ 30) (hp : p < 6) (kk : ∀ h1, Fx [63] h0 h1 → Q (.int (nI (mst T q k n p))) h1) : ∀ (j w : Nat) (h : XH), w + j = wN T → Fx [63] h0 h → (∀ s, s < 5 → xI h 63 s = nI (gN T q k n p s w)) → Ev 150 23 [.ref 58, .int (nI k), .int (nI n), .int (nI p), .int (nI (wN T)), .int (nI w), .null] [] h Q := by
  have W2 : wN T ≤ 2000 := A0.1.2.2.2.w.1
  have t := A0.1.2.2.2
  have m20 := A0.2.2.2.1
  intro j
  induction j with
  | zero =>
    intro w h hj f h63
    have A := A0.fx63 f
    refine B_150_23 A.1.1 ?_
    try simp (disch := omega) only [lit, tn_nI, z_inb, nI_add, pk_mul, z_le, z_nle, z_lt, z_nlt, z_ne, z_m1, pk_sub, xI_ss, xI_sd, xI_n, eq_self, true_and, and_true, and_self, not_true_eq_false, not_false_eq_true, false_implies, true_implies, implies_true, Classical.not_not, forall_const, true_or, or_true, false_or, or_false, false_and, and_false, if_true, if_false, ite_true, ite_false, reduceIte, reduceCtorEq]
    rw [show w = wN T by omega] at h63
    exact l_mx A.1.1 (g := fun s => gN T q k n p s (wN T)) (b := wN T) (by omega) h63 (fun s _ => cntP_le _) (kk h f) 5 0 (by decide)
  | succ j ih =>
    intro w h hj f h63
    have A := A0.fx63 f
    have K := K0.fx63 A0.1.1 f
    have r9 := rm_9 A.2.1
    refine B_150_23 A.1.1 ?_
    try simp (disch := omega) only [lit, tn_nI, z_inb, nI_add, pk_mul, z_le, z_nle, z_lt, z_nlt, z_ne, z_m1, pk_sub, xI_ss, xI_sd, xI_n, eq_self, true_and, and_true, and_self, not_true_eq_false, not_false_eq_true, false_implies, true_implies, implies_true, Classical.not_not, forall_const, true_or, or_true, false_or, or_false, false_and, and_false, if_true, if_false, ite_true, ite_false, reduceIte, reduceCtorEq]
    refine c_fit A hk K.kn (by omega) (fun z => ⟨A.1.1, ?_⟩) (fun z => ⟨A.1.1, ?_⟩)
    · obtain ⟨d, Bn, hnd, -⟩ := K
      have ev := Bn.2.2.2.2.2.1 n w hnd (by omega)
      have hl9 := Bn.2.2.2.1
      have hib : n * wN T + w < 31 * wN T := by
        have : (n + 1) * wN T ≤ 31 * wN T := Nat.mul_le_mul_right _ (by omega)
        rw [Nat.add_mul, Nat.one_mul] at this
        omega
      have hlt : bsh T w n < 15625 := num_r6 (bD_ok t w _).1.1
      have hd := dg_le (s := bsh T w n) (p := p)
      try simp (disch := omega) only [lit, tn_nI, z_inb, nI_add, pk_mul, z_le, z_nle, z_lt, z_nlt, z_ne, z_m1, pk_sub, xI_ss, xI_sd, xI_n, eq_self, true_and, and_true, and_self, not_true_eq_false, not_false_eq_true, false_implies, true_implies, implies_true, Classical.not_not, forall_const, true_or, or_true, false_or, or_false, false_and, and_false, if_true, if_false, ite_true, ite_false, reduceIte, reduceCtorEq, ev]
      refine c_dg A.1.1 (by omega) (by omega) ⟨A.1.1, ?_⟩
      have e63 := h63 (dg (bsh T w n) p) (by omega)
      try simp (disch := omega) only [lit, tn_nI, z_inb, nI_add, pk_mul, z_le, z_nle, z_lt, z_nlt, z_ne, z_m1, pk_sub, xI_ss, xI_sd, xI_n, eq_self, true_and, and_true, and_self, not_true_eq_false, not_false_eq_true, false_implies, true_implies, implies_true, Classical.not_not, forall_const, true_or, or_true, false_or, or_false, false_and, and_false, if_true, if_false, ite_true, ite_false, reduceIte, reduceCtorEq, e63]
      refine ih (w + 1) _ (by omega) (f.set (by decide)) (fun s hs => ?_)
      by_cases y : s = dg (bsh T w n) p
      · subst y
        rw [xI_ss]
        unfold gN
        rw [cntP_1 ⟨z, rfl⟩]
      · rw [xI_sd y, h63 s hs]
        unfold gN
        rw [cntP_0 (fun x => y x.2.symm)]
    · try simp (disch := omega) only [lit, tn_nI, z_inb, nI_add, pk_mul, z_le, z_nle, z_lt, z_nlt, z_ne, z_m1, pk_sub, xI_ss, xI_sd, xI_n, eq_self, true_and, and_true, and_self, not_true_eq_false, not_false_eq_true, false_implies, true_implies, implies_true, Classical.not_not, forall_const, true_or, or_true, false_or, or_false, false_and, and_false, if_true, if_false, ite_true, ite_false, reduceIte, reduceCtorEq]
      refine ih (w + 1) h (by omega) f (fun s hs => ?_)
      rw [h63 s hs]
      unfold gN
      rw [cntP_0 (fun x => z x.1)]
theorem c_mst {K : Int32 → XH → Prop} (A : CG T c m q h) (hk : k ≤ m) (K0 : KM T q k n h) (hn : n ≤ 30) (hp : p < 6) (kk : ∀ h1, Fx [63] h h1 → K (nI (mst T q k n p)) h1) : ClI 150 [.ref 58, .int (nI k), .int (nI n), .int (nI p)] h K := by
  have e6 : xI h (xR h 34 0) 6 = nI (wN T) := by rw [A.1.2.1, A.1.t0]; exact A.1.2.2.2.w.2.1
  refine B_150_0 A.1.1 (c_fill A.1.1 (ar_63 A.1.1) (by decide) (by decide) (fun h1 f1 e1 => ⟨f1.sh A.1.1 (by decide), ?_⟩))
  rw [e6]
  refine l_mst (A.fx63 f1) hk (K0.fx63 A.1.1 f1) hn hp (fun h2 f2 => ⟨_, rfl, kk h2 (f1.tr f2)⟩) (wN T) 0 h1 (by omega) Fx.rf (fun s hs => ?_)
  rw [e1]
  unfold filI
  rw [if_pos hs]
  rfl
/-- the best so far, as the class has it -/
def nxW (b : Option Nat) : Int32 := match b with
  | none => -2
  | some v => nI v
noncomputable def nxF (T : Nat → Nat → Int32) (q : Nat → Nat × Nat × Nat) (k n : Nat) (b : Option Nat) : Nat := match b with
  | none => 0
  | some v => mst T q k n v
theorem l_cnx {j0 : Nat} (A0 : CG T c m q h0) (hk : k ≤ m) (K0 : KM T q k n h0) (hn : n ≤ 30) (hj0 : j0 < 2) (kk : ∀ h1, Fx [63] h0 h1 → Q (.int (aNext T q k n j0)) h1) : ∀ (j p : Nat) (b : Option Nat) (h : XH), p + j = tn (T 0 1) → (∀ v, b = some v → v < 6) → Fx [63] h0 h → (cntP (fit T q k) (wN T) = 0 → b = none) → (¬ cntP (fit T q k) (wN T) = 0 → nx T q k n (tn (T 0 1)) 0 none = nx T q k n j p b) → Ev 149 10 [.ref 58, .int (nI k), .int (nI n), .int (nI j0), .int (nxW b), .int (nI (nxF T q k n b)), .int (nI p), .null] [] h Q := by
  have W2 : wN T ≤ 2000 := A0.1.2.2.2.w.1
  have p6 := A0.1.p6
  intro j
  induction j with
  | zero =>
    intro p b h hj hb f h0' h1'
    have A := A0.fx63 f
    have e1 : xI h (xR h 34 0) 1 = nI (tn (T 0 1)) := by rw [A.1.2.1, A.1.t0]; exact A.1.2.2.2.p
    have k1 := kk h f
    unfold aNext at k1
    refine B_149_10 A.1.1 ?_
    rw [e1]
    refine ⟨fun _ => ?_, fun z => absurd (nI_le (by omega) (by omega)) z⟩
    by_cases hz : cntP (fit T q k) (wN T) = 0
    · rw [if_pos hz] at k1
      rw [h0' hz]
      exact ⟨fun _ => k1, fun z => absurd (by decide) z⟩
    · rw [if_neg hz, h1' hz] at k1
      cases b with
      | none => exact ⟨fun _ => k1, fun z => absurd (by decide) z⟩
      | some v =>
        have hv := hb v rfl
        refine ⟨fun z => absurd z (nI_pos (by omega)), fun _ => ⟨fun z => ?_, fun z => ?_⟩⟩
        · have k1 : Q (.int (if j0 = 0 then nI v else nI (mst T q k n v))) h := k1
          rw [if_neg (fun y => z (by rw [y]; rfl))] at k1
          exact k1
        · have y : j0 = 0 := (nI_eq (b := 0) (by omega) (by decide)).mp (Classical.not_not.mp z)
          have k1 : Q (.int (if j0 = 0 then nI v else nI (mst T q k n v))) h := k1
          rw [if_pos y] at k1
          exact k1
  | succ j ih =>
    intro p b h hj hb f h0' h1'
    have A := A0.fx63 f
    have e1 : xI h (xR h 34 0) 1 = nI (tn (T 0 1)) := by rw [A.1.2.1, A.1.t0]; exact A.1.2.2.2.p
    have hml := mst_le (T := T) (q := q) (k := k) (n := n) (p := p)
    refine B_149_10 A.1.1 ?_
    rw [e1, nI_1]
    refine ⟨fun z => absurd z (nI_ge (by omega) (by omega)), fun _ => ?_⟩
    refine c_mst A hk (K0.fx63 A0.1.1 f) hn (by omega) (fun h1 f1 => ⟨f1.sh A.1.1 (by decide), fun z => ?_, fun z => ?_⟩)
    · have hz : cntP (fit T q k) (wN T) = 0 := by
        apply Classical.byContradiction
        intro y
        have h2 := mst_1 (n := n) (p := p) y
        exact absurd z (nI_nle h2 (by omega))
      exact ih (p + 1) b h1 (by omega) hb (f.tr f1) h0' (fun y => absurd hz y)
    · have hz : ¬ cntP (fit T q k) (wN T) = 0 := fun y => by
        rw [mst_0 y] at z
        exact z (by decide)
      have e := h1' hz
      cases b with
      | none =>
        refine ⟨fun _ => ?_, fun y => absurd (by decide) y⟩
        exact ih (p + 1) (some p) h1 (by omega) (fun v hv => by cases hv; omega) (f.tr f1) (fun y => absurd y hz) (fun _ => e)
      | some v =>
        have hv := hb v rfl
        have hmv := mst_le (T := T) (q := q) (k := k) (n := n) (p := v)
        have e : nx T q k n (tn (T 0 1)) 0 none = nx T q k n j (p + 1) (if mst T q k n p < mst T q k n v then some p else some v) := e
        refine ⟨fun y => absurd y (nI_pos (by omega)), fun _ => ⟨fun y => ?_, fun y => ?_⟩⟩
        · have y : mst T q k n v ≤ mst T q k n p := (nI_leI (by omega) (by omega)).mp y
          rw [if_neg (by omega)] at e
          exact ih (p + 1) (some v) h1 (by omega) hb (f.tr f1) (fun y => absurd y hz) (fun _ => e)
        · have y : ¬ mst T q k n v ≤ mst T q k n p := fun x => y (nI_le x (by omega))
          rw [if_pos (by omega)] at e
          exact ih (p + 1) (some p) h1 (by omega) (fun u hu => by cases hu; omega) (f.tr f1) (fun y => absurd y hz) (fun _ => e)
/-- as Bx, with the row of parted ones -/
def Cx (h h1 : XH) : Prop := Hx (63 :: SBf) GB h h1 ∧ xI h1 58 0 = xI h 58 0
theorem Cx.of (s : Sh h0) {h1 : XH} (b : Bx h0 h) (f : Fx [63] h h1) : Cx h0 h1 := ⟨hx_fx b.1 f s (by decide) (by decide) (by decide) (by decide), by rw [f.at (by decide)]; exact b.2⟩
theorem c_cNext {x y z : Int32} {K : Int32 → XH → Prop} (A : CG T c m q h) (k : ∀ h1, Cx h h1 → CG T c m q h1 → K (oNext T m q x y z) h1) : ClI 148 [.ref 4, .int x, .int y, .int z] h K := by
  have m20 := A.2.2.2.1
  have rfx : Cx h h := ⟨Hx.rf A.1.1, rfl⟩
  unfold oNext at k
  refine B_148_0 A.1.1 (c_known A (fun j hj e => ⟨A.1.1, ?_⟩) (fun e => ⟨A.1.1, ?_⟩))
  · subst e
    rw [opN_1 hj (by omega)] at k
    try simp (disch := omega) only [lit, tn_nI, z_inb, nI_add, pk_mul, z_le, z_nle, z_lt, z_nlt, z_ne, z_m1, pk_sub, xI_ss, xI_sd, xI_n, eq_self, true_and, and_true, and_self, not_true_eq_false, not_false_eq_true, false_implies, true_implies, implies_true, Classical.not_not, forall_const, true_or, or_true, false_or, or_false, false_and, and_false, if_true, if_false, ite_true, ite_false, reduceIte, reduceCtorEq]
    refine c_isBegun A.1.1 (fun n hn e => ⟨A.1.1, ?_⟩) (fun e => ⟨A.1.1, ?_⟩)
    · subst e
      rw [opN_1 hn (by omega)] at k
      try simp (disch := omega) only [lit, tn_nI, z_inb, nI_add, pk_mul, z_le, z_nle, z_lt, z_nlt, z_ne, z_m1, pk_sub, xI_ss, xI_sd, xI_n, eq_self, true_and, and_true, and_self, not_true_eq_false, not_false_eq_true, false_implies, true_implies, implies_true, Classical.not_not, forall_const, true_or, or_true, false_or, or_false, false_and, and_false, if_true, if_false, ite_true, ite_false, reduceIte, reduceCtorEq]
      refine c_oneTwo A.1.1 (fun w hw e => ⟨A.1.1, ?_⟩) (fun e => ⟨A.1.1, ?_⟩)
      · subst e
        rw [opN_1 hw (by omega)] at k
        try simp (disch := omega) only [lit, tn_nI, z_inb, nI_add, pk_mul, z_le, z_nle, z_lt, z_nlt, z_ne, z_m1, pk_sub, xI_ss, xI_sd, xI_n, eq_self, true_and, and_true, and_self, not_true_eq_false, not_false_eq_true, false_implies, true_implies, implies_true, Classical.not_not, forall_const, true_or, or_true, false_or, or_false, false_and, and_false, if_true, if_false, ite_true, ite_false, reduceIte, reduceCtorEq]
        refine c_toKM A (by omega) (by omega) (fun h1 b A1 KM1 => ?_)
        refine B_149_0 A1.1.1 (l_cnx A1 (by omega) KM1 (by omega) hw (fun h2 f2 => ⟨_, rfl, f2.sh A1.1.1 (by decide), _, rfl, k h2 (Cx.of A.1.1 b f2) (A1.fx63 f2)⟩) (tn (T 0 1)) 0 none h1 (by omega) (fun v e => by cases e) Fx.rf (fun _ => rfl) (fun _ => rfl))
      · rw [opN_0 e] at k
        try simp (disch := omega) only [lit, tn_nI, z_inb, nI_add, pk_mul, z_le, z_nle, z_lt, z_nlt, z_ne, z_m1, pk_sub, xI_ss, xI_sd, xI_n, eq_self, true_and, and_true, and_self, not_true_eq_false, not_false_eq_true, false_implies, true_implies, implies_true, Classical.not_not, forall_const, true_or, or_true, false_or, or_false, false_and, and_false, if_true, if_false, ite_true, ite_false, reduceIte, reduceCtorEq]
        exact ⟨_, rfl, k h rfx A⟩
    · rw [opN_0 e] at k
      try simp (disch := omega) only [lit, tn_nI, z_inb, nI_add, pk_mul, z_le, z_nle, z_lt, z_nlt, z_ne, z_m1, pk_sub, xI_ss, xI_sd, xI_n, eq_self, true_and, and_true, and_self, not_true_eq_false, not_false_eq_true, false_implies, true_implies, implies_true, Classical.not_not, forall_const, true_or, or_true, false_or, or_false, false_and, and_false, if_true, if_false, ite_true, ite_false, reduceIte, reduceCtorEq]
      exact ⟨_, rfl, k h rfx A⟩
  · rw [opN_0 e] at k
    try simp (disch := omega) only [lit, tn_nI, z_inb, nI_add, pk_mul, z_le, z_nle, z_lt, z_nlt, z_ne, z_m1, pk_sub, xI_ss, xI_sd, xI_n, eq_self, true_and, and_true, and_self, not_true_eq_false, not_false_eq_true, false_implies, true_implies, implies_true, Classical.not_not, forall_const, true_or, or_true, false_or, or_false, false_and, and_false, if_true, if_false, ite_true, ite_false, reduceIte, reduceCtorEq]
    exact ⟨_, rfl, k h rfx A⟩
end NX

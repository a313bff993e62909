/-! TWINS: spec, class, reference -/
/-- the first of n at which f is s -/
def fo (f : Nat → Nat) (s : Nat) : Nat → Option Nat
  | 0 => none
  | w + 1 => match fo f s w with
    | some v => some v
    | none => if f w = s then some w else none
theorem fo_lt {f : Nat → Nat} {s : Nat} : ∀ n v, fo f s n = some v → v < n := by
  intro n
  induction n with
  | zero => intro v h; cases h
  | succ n ih =>
    intro v h
    unfold fo at h
    cases hf : fo f s n with
    | some u => rw [hf] at h; cases h; have := ih v hf; omega
    | none =>
      rw [hf] at h
      dsimp only at h
      split at h
      · cases h; omega
      · cases h
def foI (f : Nat → Nat) (s n : Nat) : Int32 := match fo f s n with
  | none => -1
  | some v => nI v
theorem foI_s {f : Nat → Nat} {s w : Nat} (h : fo f (f w) w = none) : foI f s (w + 1) = if s = f w then nI w else foI f s w := by
  unfold foI
  show (match (match fo f s w with | some v => some v | none => if f w = s then some w else none) with | none => (-1 : Int32) | some v => nI v) = _
  by_cases e : s = f w
  · subst e
    rw [h, if_pos rfl]
    dsimp only
    rw [if_pos rfl]
  · rw [if_neg e]
    cases hf : fo f s w with
    | some u => rfl
    | none =>
      dsimp only
      rw [if_neg (fun z => e z.symm)]
def twn (f : Nat → Nat) (what : Nat) : Nat → Nat → Int32
  | 0, _ => -2
  | k + 1, w => match fo f (f w) w with
    | some v => if what = 0 then nI v else nI w
    | none => twn f what k (w + 1)
def oTwins (T : Nat → Nat → Int32) (x y : Int32) : Int32 := opN x 31 (-1) (fun n => opN y 2 (-1) (fun w => twn (fun v => bsh T v n) w (wN T) 0))
theorem bsh_lt {T : Nat → Nat → Int32} (t : tA T) (w n : Nat) : bsh T w n < 15625 := num_r6 (bD_ok t w n).1.1
section TW
variable {T : Nat → Nat → Int32} {c m : Nat} {q : Nat → Nat × Nat × Nat} {h0 h : XH} {Q : Value → XH → Prop} {n : Nat}
theorem BOk.hx10 {S : List Nat} (B : BOk T h0) (s : Sh h0) (p : Hx S [(58, 10)] h0 h) (hS : ∀ a ∈ S, a < 58) : BOk T h ∧ ∀ m, BOn T h0 m → BOn T h m := by
  obtain ⟨r8, i8, -, n8⟩ := p.g s (58, 8, 1, 64) (by decide) (fun a ha => by have := hS a ha; show a < 124 ∧ a ≠ 64; omega) (by decide)
  obtain ⟨r9, i9, -, n9⟩ := p.g s (58, 9, 1, 65) (by decide) (fun a ha => by have := hS a ha; show a < 124 ∧ a ≠ 65; omega) (by decide)
  obtain ⟨r11, i11, -, n11⟩ := p.g s (58, 11, 1, 67) (by decide) (fun a ha => by have := hS a ha; show a < 124 ∧ a ≠ 67; omega) (by decide)
  obtain ⟨r12, i12, -, n12⟩ := p.g s (58, 12, 1, 68) (by decide) (fun a ha => by have := hS a ha; show a < 124 ∧ a ≠ 68; omega) (by decide)
  have e58 : xI h 58 = xI h0 58 := p.at s (by decide) (fun z => by have := hS _ z; omega) (by decide) (by decide)
  have e62 : xI h 62 = xI h0 62 := p.at s (by decide) (fun z => by have := hS _ z; omega) (by decide) (by decide)
  have r8 : xR h 58 8 = xR h0 58 8 := r8
  have r9 : xR h 58 9 = xR h0 58 9 := r9
  have r11 : xR h 58 11 = xR h0 58 11 := r11
  have r12 : xR h 58 12 = xR h0 58 12 := r12
  have i8 : xI h (xR h0 58 8) = xI h0 (xR h0 58 8) := i8
  have i9 : xI h (xR h0 58 9) = xI h0 (xR h0 58 9) := i9
  have i11 : xI h (xR h0 58 11) = xI h0 (xR h0 58 11) := i11
  have i12 : xI h (xR h0 58 12) = xI h0 (xR h0 58 12) := i12
  have n8 : xN h (xR h0 58 8) = xN h0 (xR h0 58 8) := n8
  have n9 : xN h (xR h0 58 9) = xN h0 (xR h0 58 9) := n9
  have n11 : xN h (xR h0 58 11) = xN h0 (xR h0 58 11) := n11
  have n12 : xN h (xR h0 58 12) = xN h0 (xR h0 58 12) := n12
  have key : ∀ m, BOn T h0 m → BOn T h m := by
    intro m Bn
    unfold BOn CV at Bn ⊢
    rw [r8, r9, r11, r12, i8, i9, i11, i12, n8, n9, n11, n12, e58, e62]
    exact Bn
  refine ⟨⟨?_, by rw [r11, r12, n11, n12]; exact B.2⟩, key⟩
  rcases B.1 with e | ⟨m, Bn⟩
  · left; rw [e58]; exact e
  · exact Or.inr ⟨m, key m Bn⟩
theorem CG.hx10 (A : CG T c m q h0) (p : Hx [] [(58, 10)] h0 h) : CG T c m q h := by
  obtain ⟨M, rm, B, S⟩ := A
  refine ⟨M.hx p (by decide) (by decide), p.2.2.2.2.1 rm, (B.hx10 M.1 p (by intro a ha; cases ha)).1, ?_⟩
  unfold SNc
  rw [p.at M.1 (by decide) (by decide) (by decide) (by decide), p.at M.1 (by decide) (by decide) (by decide) (by decide), p.at M.1 (by decide) (by decide) (by decide) (by decide), p.at M.1 (by decide) (by decide) (by decide) (by decide)]
  exact S
/-- marks made ready: at least 15,625, all v -/
theorem c_marks {pc0 : Nat} {v : Int32} {K : XH → Prop} (A : CG T c m q h) (k : ∀ h1, Hx [] [(58, 10)] h h1 → CG T c m q h1 → 15625 ≤ xN h1 (xR h1 58 10) → xN h1 (xR h1 58 10) ≤ 65536 → (∀ s, s < 15625 → xI h1 (xR h1 58 10) s = v) → K h1) : ClR 101 [.ref (xR h 58 10), .int 15625] h (fun u h1 => Sh h1 ∧ (u ≠ 0 ∧ (Sh (xsR h1 58 10 u) ∧ ClV 23 [.ref (xR (xsR h1 58 10 u) 58 10), .int v] (xsR h1 58 10 u) (fun h2 => Sh h2 ∧ K h2)))) := by
  refine c_room (q := (58, 10, 1, 66)) (need := 15625) (K := fun h' => Sh h' ∧ ClV 23 [.ref (xR h' 58 10), .int v] h' (fun h2 => Sh h2 ∧ K h2)) A.1.1 (by decide) rfl A.2.1 (fun n => by unfold okL; simp) (by decide) (fun h1 p1 l1 => ?_)
  have A1 := A.hx10 p1
  have s1 := A1.1.1
  have l1 : 15625 ≤ xN h1 (xR h1 58 10) := l1
  have g10 := g_58 s1 (j := 10) (v := 66) (by decide)
  have b10 : xN h1 (xR h1 58 10) ≤ 65536 := p2_le (by have := rm_gl A1.2.1 (q := (58, 10, 1, 66)) (by decide); unfold okL at this; simpa using this)
  refine ⟨s1, c_fill s1 ⟨sgk_58_10 s1, rfl, by omega⟩ (by omega) (by omega) (fun h2 f2 e2 => ?_)⟩
  have p2' : Hx [] [(58, 10)] h1 h2 := f2.hxG s1 (by simp; omega) (fun a ha => Or.inr ⟨(58, 10), by simp, by simpa using ha⟩)
  have r10 : xR h2 58 10 = xR h1 58 10 := by rw [f2.1]
  refine ⟨p2'.1, k h2 (p1.tr p2') (A1.hx10 p2') ?_ ?_ (fun s hs => ?_)⟩
  · rw [r10, f2.2.2.2.1]; exact l1
  · rw [r10, f2.2.2.2.1]; exact b10
  · rw [r10, e2]
    unfold filI
    rw [if_pos (by omega)]
theorem l_ctw {g9 g10 j0 d : Nat} (A : CG T c m q h0) (Bn : BOn T h0 d) (hnd : n ≤ d) (hj0 : j0 < 2) (e9 : xR h0 58 9 = g9) (e10 : xR h0 58 10 = g10) (l10 : 15625 ≤ xN h0 g10) (b10 : xN h0 g10 ≤ 65536) (kk : ∀ h1, Fx [g10] h0 h1 → Q (.int (twn (fun v => bsh T v n) j0 (wN T) 0)) h1) : ∀ (k w : Nat) (h : XH), w + k = wN T → Fx [g10] h0 h → (∀ s, s < 15625 → xI h g10 s = foI (fun v => bsh T v n) s w) → twn (fun v => bsh T v n) j0 (wN T) 0 = twn (fun v => bsh T v n) j0 k w → Ev 130 36 [.ref 58, .int (nI n), .int (nI j0), .int (nI (wN T)), .int (nI w), .null] [] h Q := by
  have W2 : wN T ≤ 2000 := A.1.2.2.2.w.1
  have t := A.1.2.2.2
  have s0 := A.1.1
  have d30 := Bn.1
  have b9 := rm_9 A.2.1
  rw [e9] at b9
  have l9 := Bn.2.2.2.1
  rw [e9] at l9
  have g4 := g_58 s0 (j := 10) (v := 66) (by decide)
  rw [e10] at g4
  have n910 : g9 ≠ g10 := by rw [← e9, ← e10]; exact sg_ne s0 (q := (58, 9, 1, 65)) (q' := (58, 10, 1, 66)) (by decide) (by decide) (by decide)
  intro k
  induction k with
  | zero =>
    intro w h hk f hq e
    refine B_130_36 (f.sh s0 (by simp; omega)) ?_
    try simp (disch := omega) only [lit, tn_nI, z_inb, nI_add, pk_mul, z_le, z_nle, z_lt, z_nlt, z_ne, z_m1, pk_sub, xI_ss, xI_sd, xI_n, eq_self, true_and, and_true, and_self, not_true_eq_false, not_false_eq_true, false_implies, true_implies, implies_true, Classical.not_not, forall_const, true_or, or_true, false_or, or_false, false_and, and_false, if_true, if_false, ite_true, ite_false, reduceIte, reduceCtorEq]
    have k1 := kk h f
    rw [e] at k1
    exact k1
  | succ k ih =>
    intro w h hk f hq e
    have hs := f.sh s0 (by simp; omega)
    have r9 : xR h 58 9 = g9 := by rw [f.1]; exact e9
    have r10 : xR h 58 10 = g10 := by rw [f.1]; exact e10
    have hN : xN h = xN h0 := f.2.2.2.1
    have hlt := bsh_lt t w n
    have ev : xI h g9 (n * wN T + w) = nI (bsh T w n) := by rw [f.at (by simp; omega), ← e9]; exact Bn.2.2.2.2.2.1 n w hnd (by omega)
    have hib : n * wN T + w < 31 * wN T := by
      have : (n + 1) * wN T ≤ 31 * wN T := Nat.mul_le_mul_right _ (by omega)
      rw [Nat.add_mul, Nat.one_mul] at this
      omega
    have em := hq (bsh T w n) hlt
    refine B_130_36 hs ?_
    rw [r9, r10, hN]
    have ei : nI n * nI (wN T) + nI w = nI (n * wN T + w) := by rw [pk_mul, nI_add]
    rw [ei, tn_nI (show n * wN T + w < 2 ^ 31 by omega), ev, tn_nI (show bsh T w n < 2 ^ 31 by omega), em, nI_1]
    have hib2 : InB (nI (bsh T w n)) (xN h0 g10) := inb (by omega) (by omega)
    refine ⟨fun z => absurd z (nI_ge (by omega) (by omega)), fun _ => ⟨inb (by omega) (by omega), hib2, ?_⟩⟩
    have e' : twn (fun v => bsh T v n) j0 (wN T) 0 = match fo (fun v => bsh T v n) (bsh T w n) w with
      | some v => if j0 = 0 then nI v else nI w
      | none => twn (fun v => bsh T v n) j0 k (w + 1) := e
    cases hf : fo (fun v => bsh T v n) (bsh T w n) w with
    | none =>
      rw [hf] at e'
      have efo : foI (fun v => bsh T v n) (bsh T w n) w = -1 := by unfold foI; rw [hf]
      rw [efo]
      refine ⟨fun _ => ⟨hib2, ?_⟩, fun z => absurd (by decide) z⟩
      refine ih (w + 1) _ (by omega) (f.set (by simp)) (fun s hs' => ?_) e'
      rw [foI_s (f := fun v => bsh T v n) hf]
      by_cases y : s = bsh T w n
      · subst y; rw [xI_ss, if_pos rfl]
      · rw [xI_sd y, if_neg y]; exact hq s hs'
    | some v =>
      rw [hf] at e'
      have hv := fo_lt _ _ hf
      have efo : foI (fun v => bsh T v n) (bsh T w n) w = nI v := by unfold foI; rw [hf]
      have k1 := kk h f
      rw [e'] at k1
      rw [efo]
      refine ⟨fun z => absurd z (nI_pos (by omega)), fun _ => ⟨fun z => ?_, fun z => ⟨hib2, ?_⟩⟩⟩
      · have k1 : Q (.int (if j0 = 0 then nI v else nI w)) h := k1
        rw [if_neg (fun y => z (by rw [y]; rfl))] at k1
        exact k1
      · have k1 : Q (.int (if j0 = 0 then nI v else nI w)) h := k1
        rw [if_pos ((nI_eq (b := 0) (by omega) (by decide)).mp (Classical.not_not.mp z))] at k1
        exact k1
/-- as Bx, with marks -/
def Dx (h h1 : XH) : Prop := Hx SBf [(58, 8), (58, 9), (58, 10), (58, 11), (58, 12)] h h1 ∧ xI h1 58 0 = xI h 58 0
theorem Dx.of {h1 : XH} (s : Sh h0) (b : Bx h0 h) (p : Hx [] [(58, 10)] h h1) : Dx h0 h1 := ⟨(b.1.mono (by decide) (by decide) (fun q hq => gk_lt s q (by revert q; decide))).tr (p.mono (by decide) (by decide) (fun q hq => gk_lt b.1.1 q (by revert q; decide))), by rw [p.at b.1.1 (by decide) (by decide) (by decide) (by decide)]; exact b.2⟩
theorem c_cTwins {x y : Int32} {K : Int32 → XH → Prop} (A : CG T c m q h) (k : ∀ h1, Dx h h1 → CG T c m q h1 → K (oTwins T x y) h1) : ClI 125 [.ref 4, .int x, .int y] h K := by
  have rfx : Dx h h := ⟨Hx.rf A.1.1, rfl⟩
  unfold oTwins at k
  refine B_125_0 A.1.1 (c_isBegun A.1.1 (fun n hn e => ⟨A.1.1, ?_⟩) (fun e => ⟨A.1.1, ?_⟩))
  · subst e
    rw [opN_1 hn (by omega)] at k
    try simp (disch := omega) only [lit, tn_nI, z_inb, nI_add, pk_mul, z_le, z_nle, z_lt, z_nlt, z_ne, z_m1, pk_sub, xI_ss, xI_sd, xI_n, eq_self, true_and, and_true, and_self, not_true_eq_false, not_false_eq_true, false_implies, true_implies, implies_true, Classical.not_not, forall_const, true_or, or_true, false_or, or_false, false_and, and_false, if_true, if_false, ite_true, ite_false, reduceIte, reduceCtorEq]
    refine c_oneTwo A.1.1 (fun j0 hj0 e => ⟨A.1.1, ?_⟩) (fun e => ⟨A.1.1, ?_⟩)
    · subst e
      rw [opN_1 hj0 (by omega)] at k
      try simp (disch := omega) only [lit, tn_nI, z_inb, nI_add, pk_mul, z_le, z_nle, z_lt, z_nlt, z_ne, z_m1, pk_sub, xI_ss, xI_sd, xI_n, eq_self, true_and, and_true, and_self, not_true_eq_false, not_false_eq_true, false_implies, true_implies, implies_true, Classical.not_not, forall_const, true_or, or_true, false_or, or_false, false_and, and_false, if_true, if_false, ite_true, ite_false, reduceIte, reduceCtorEq]
      refine c_reach A.1 A.2.1 A.2.2.1 (by omega) (fun h1 d b M1 r1 B1 Bn hnd => ⟨M1.1, ?_⟩)
      have A1 : CG T c m q h1 := ⟨M1, r1, B1, A.2.2.2.bx A.1.1 b⟩
      have e6 : xI h1 (xR h1 34 0) 6 = nI (wN T) := by rw [M1.2.1, M1.t0]; exact M1.2.2.2.w.2.1
      refine B_130_0 M1.1 ?_
      rw [e6]
      refine ClR.mono (c_marks (pc0 := 0) (v := -1) A1 (K := fun h2 => Ev 130 36 [.ref 58, .int (nI n), .int (nI j0), .int (nI (wN T)), .int 0, .null] [] h2 (fun r h3 => ∃ v, r = .int v ∧ (Sh h3 ∧ ∃ v1, Value.int v = Value.int v1 ∧ K v1 h3))) (fun h2 p2' A2 l10 b10 hm => ?_)) (fun u h2 z => ⟨z.1, z.2.1, ?_⟩)
      · obtain ⟨-, kB⟩ := A1.2.2.1.hx10 M1.1 p2' (by intro a ha; cases ha)
        have g10 := g_58 A2.1.1 (j := 10) (v := 66) (by decide)
        refine l_ctw A2 (kB d Bn) hnd hj0 rfl rfl l10 b10 (fun h3 f3 => ⟨_, rfl, f3.sh A2.1.1 (by simp; omega), _, rfl, ?_⟩) (wN T) 0 h2 (by omega) Fx.rf (fun s hs => hm s hs) rfl
        have p3 : Hx [] [(58, 10)] h2 h3 := f3.hxG A2.1.1 (by simp; omega) (fun a ha => Or.inr ⟨(58, 10), by simp, by simpa using ha⟩)
        exact k h3 (Dx.of A.1.1 b (p2'.tr p3)) (A2.hx10 p3)
      · exact B_130_25 z.2.2.1 z.2.2.2
    · rw [opN_0 e] at k
      try simp (disch := omega) only [lit, tn_nI, z_inb, nI_add, pk_mul, z_le, z_nle, z_lt, z_nlt, z_ne, z_m1, pk_sub, xI_ss, xI_sd, xI_n, eq_self, true_and, and_true, and_self, not_true_eq_false, not_false_eq_true, false_implies, true_implies, implies_true, Classical.not_not, forall_const, true_or, or_true, false_or, or_false, false_and, and_false, if_true, if_false, ite_true, ite_false, reduceIte, reduceCtorEq]
      exact ⟨_, rfl, k h rfx A⟩
  · rw [opN_0 e] at k
    try simp (disch := omega) only [lit, tn_nI, z_inb, nI_add, pk_mul, z_le, z_nle, z_lt, z_nlt, z_ne, z_m1, pk_sub, xI_ss, xI_sd, xI_n, eq_self, true_and, and_true, and_self, not_true_eq_false, not_false_eq_true, false_implies, true_implies, implies_true, Classical.not_not, forall_const, true_or, or_true, false_or, or_false, false_and, and_false, if_true, if_false, ite_true, ite_false, reduceIte, reduceCtorEq]
    exact ⟨_, rfl, k h rfx A⟩
end TW

/-! RESTS: the class -/
theorem selP_z {P : Nat → Prop} {i : Int32} {w c : Nat} : selP P i 0 w c = if i = -1 then nI c else -1 := rfl
def tDj (T : Nat → Nat → Int32) : Prop := ∀ f, f < tn (T 0 0) → ¬ (gb (T 0 4) f = true ∧ gb (T 0 5) f = true)
theorem rst_iff {T : Nat → Nat → Int32} {r : Nat → Int32} {my your w : Nat} (t : tA T) (hd : tDj T) (hro : rOk T r) (hw : w < wN T) : rst T r my your w ↔ (pt T (gb ((T 0 4 ||| T 0 5) ^^^ (-1))) w = pt T (gb ((T 0 4 ||| T 0 5) ^^^ (-1))) (wNow T r) ∧ dg (wsh T r w) your = mnF (fun w => dg (wsh T r w) your) (pt T (gb (T 0 4 ^^^ (-1)))) (wN T) (pt T (gb (T 0 4 ^^^ (-1))) w) ∧ dg (wsh T r w) my = mnF (fun w => dg (wsh T r w) my) (pt T (gb (T 0 5 ^^^ (-1)))) (wN T) (pt T (gb (T 0 5 ^^^ (-1))) w)) := by
  have f8 := t.f8
  have k1 := mnF_iff (f := fun w => dg (wsh T r w) your) (key := pt T (gb (T 0 4 ^^^ (-1)))) hw dg_le
  have k2 := mnF_iff (f := fun w => dg (wsh T r w) my) (key := pt T (gb (T 0 5 ^^^ (-1)))) hw dg_le
  have g1 : ∀ o, pt T (gb (T 0 4 ^^^ (-1))) o = pt T (gb (T 0 4 ^^^ (-1))) w ↔ alk T 1 w o := by
    intro o
    rw [pt_eq]
    constructor
    · intro h f hf hne
      refine (h f hf ?_).symm
      rw [gb_not (by omega)]
      unfold wh at hne
      cases hg : gb (T 0 4) f with
      | true => rw [hg] at hne; exact absurd rfl hne
      | false => rfl
    · intro h f hf hb
      rw [gb_not (by omega)] at hb
      refine (h f hf ?_).symm
      unfold wh
      cases hg : gb (T 0 4) f with
      | true => rw [hg] at hb; cases hb
      | false => cases gb (T 0 5) f <;> decide
  have g2 : ∀ o, pt T (gb (T 0 5 ^^^ (-1))) o = pt T (gb (T 0 5 ^^^ (-1))) w ↔ alk T 2 w o := by
    intro o
    rw [pt_eq]
    constructor
    · intro h f hf hne
      refine (h f hf ?_).symm
      rw [gb_not (by omega)]
      unfold wh at hne
      cases hg : gb (T 0 5) f with
      | true =>
        cases hg4 : gb (T 0 4) f with
        | true => exact absurd ⟨hg4, hg⟩ (hd f hf)
        | false => rw [hg, hg4] at hne; exact absurd rfl hne
      | false => rfl
    · intro h f hf hb
      rw [gb_not (by omega)] at hb
      refine (h f hf ?_).symm
      unfold wh
      cases hg : gb (T 0 5) f with
      | true => rw [hg] at hb; cases hb
      | false => cases gb (T 0 4) f <;> decide
  have g0 : pt T (gb ((T 0 4 ||| T 0 5) ^^^ (-1))) w = pt T (gb ((T 0 4 ||| T 0 5) ^^^ (-1))) (wNow T r) ↔ ∀ f, f < tn (T 0 0) → wh T f = 0 → nI (fIn (mo T) w f) = r f := by
    rw [pt_eq]
    have hbit : ∀ f, f < tn (T 0 0) → (gb ((T 0 4 ||| T 0 5) ^^^ (-1)) f = true ↔ wh T f = 0) := by
      intro f hf
      rw [gb_not (by omega), gb_or]
      unfold wh
      cases gb (T 0 4) f <;> cases gb (T 0 5) f <;> decide
    have hdig : ∀ f, f < tn (T 0 0) → fIn (mo T) (wNow T r) f = fdg r f := fun f hf => wOf_dig _ f (fun g hg => (hro.f t.n hg).2) hf
    constructor
    · intro h f hf h0
      rw [h f hf ((hbit f hf).mpr h0), hdig f hf]
      exact (hro.f t.n hf).1.symm
    · intro h f hf hb
      have h1 := h f hf ((hbit f hf).mp hb)
      rw [hdig f hf]
      rw [(hro.f t.n hf).1] at h1
      have m3 := (mo_n t.n hf).2.2
      have h2 : fIn (mo T) w f ≤ mo T f := fIn_lt
      have h3 := (hro.f t.n hf).2
      exact (nI_eq (by omega) (by omega)).mp h1
  rw [g0, k1, k2]
  unfold rst
  constructor
  · intro h
    exact ⟨h.1, fun o ho hk => (h.2 o ho).1 ((g1 o).mp hk), fun o ho hk => (h.2 o ho).2 ((g2 o).mp hk)⟩
  · intro h
    exact ⟨h.1, fun o ho => ⟨fun hk => h.2.1 o ho ((g1 o).mpr hk), fun hk => h.2.2 o ho ((g2 o).mpr hk)⟩⟩
noncomputable def oRests (T : Nat → Nat → Int32) (r : Nat → Int32) (x y i : Int32) : Int32 := opN x (tn (T 0 1)) (-1) (fun my => opN y (tn (T 0 1)) (-1) (fun your => if my = your then -1 else if i < -1 then -1 else selP (rst T r my your) i (wN T) 0 0))
section CR2
variable {T : Nat → Nat → Int32} {c : Nat} {h0 h : XH} {r : Nat → Int32} {Q : Value → XH → Prop}
theorem c_fw {my your : Nat} {K : XH → Prop} (A : CWn T c r h) (hm : my < 6) (hy : your < 6) (k : ∀ h1, Hx [] [(43, 5), (43, 6)] h h1 → CWn T c r h1 → FW T r my your (wN T) h1 → K h1) : ClV 133 [.ref 43, .int (nI my), .int (nI your)] h K := by
  have W2 := A.w.2.1
  have e6 := A.w.1
  have sg := fun h (s : Sh h) => gk_lt (h := h) s
  refine B_133_0 A.1.1 ?_
  rw [e6, A.1.2.1]
  refine c_room (q := (43, 5, 1, 47)) (need := wN T) (K := fun h' => Ev 133 23 [.ref 43, .int (nI my), .int (nI your), .ref c, .null, .null, .null] [] h' (fun r h1 => r = .null ∧ K h1)) A.1.1 (by decide) rfl A.2.2.2.2 (fun n => by unfold okL; simp) (by omega) (fun h1 p1 l1 => ?_)
  have A1 := A.hx p1 (by decide) (by decide)
  have e61 := A1.w.2.2
  refine B_133_23 A1.1.1 A1.1.c2 ?_
  rw [e61]
  refine c_room (q := (43, 6, 1, 48)) (need := wN T) (K := fun h' => Ev 133 38 [.ref 43, .int (nI my), .int (nI your), .ref c, .null, .null, .null] [] h' (fun r h1 => r = .null ∧ K h1)) A1.1.1 (by decide) rfl A1.2.2.2.2 (fun n => by unfold okL; simp) (by omega) (fun h2 p2' l2 => ?_)
  have A2 := A1.hx p2' (by decide) (by decide)
  have pA : Hx [] [(43, 5), (43, 6)] h h2 := (p1.mono (by decide) (by decide) (fun q hq => gk_lt A.1.1 q (by revert q; decide))).tr (p2'.mono (by decide) (by decide) (fun q hq => gk_lt A1.1.1 q (by revert q; decide)))
  have t1 := A1.1.1.2.2.2.2.2.2.1
  obtain ⟨-, -, hT5⟩ : xK h1 (xR h1 43 5) = 1 ∧ (xR h1 43 5 = 47 ∨ 124 ≤ xR h1 43 5) ∧ xR h1 43 5 < xT h1 := A1.1.1.2.2.2.2.1 (43, 5, 1, 47) (by decide)
  have r5 : xR h2 43 5 = xR h1 43 5 := p2'.2.1 43 5 (by decide) (by omega)
  have l5 : wN T ≤ xN h2 (xR h2 43 5) := by rw [r5, (p2'.2.2.2.1 _ hT5).1]; exact l1
  have l6 : wN T ≤ xN h2 (xR h2 43 6) := l2
  have rm := rm_56 A2.2.2.2.2
  have n56 : xR h2 43 5 ≠ xR h2 43 6 := sg_ne A2.1.1 (q := (43, 5, 1, 47)) (q' := (43, 6, 1, 48)) (by decide) (by decide) (by decide)
  have g5 := sg4_43_5 A2.1.1
  have g6 := sg4_43_6 A2.1.1
  refine B_133_38 A2.1.1 A2.1.c2 ?_
  refine c_fill A2.1.1 ⟨sgk_43_5 A2.1.1, rfl, by omega⟩ (by omega) (by omega) (fun h3 f3 e3 => ?_)
  have hs3 := f3.sh A2.1.1 (by simp; omega)
  have r6 : xR h3 43 6 = xR h2 43 6 := by rw [f3.1]
  refine ⟨hs3, ?_⟩
  rw [r6]
  refine c_fill (n := xN h2 (xR h2 43 6)) hs3 ⟨by rw [f3.2.2.1]; exact sgk_43_6 A2.1.1, by rw [f3.2.2.2.1], by omega⟩ (by omega) (by omega) (fun h4 f4 e4 => ?_)
  have f34 : Fx [xR h2 43 5, xR h2 43 6] h2 h4 := f3.trm f4 (by simp) (by simp)
  have hs4 := f34.sh A2.1.1 (by simp; omega)
  refine ⟨hs4, ?_⟩
  refine l_fw A2 hm hy rfl rfl l5 l6 (fun h5 f5 F5 => ⟨rfl, ?_⟩) (wN T) 0 h4 (by omega) f34 ?_
  · have r5' : xR h4 43 5 = xR h2 43 5 := by rw [f34.1]
    have r6' : xR h4 43 6 = xR h2 43 6 := by rw [f34.1]
    unfold FW
    rw [r5', r6', f34.2.2.2.1]
    refine ⟨⟨l5, l6⟩, fun k hk => ⟨?_, ?_⟩⟩
    · rw [e4]
      unfold filI
      rw [if_pos (by omega)]
      rfl
    · rw [f4.at (by simp [n56]), e3]
      unfold filI
      rw [if_pos (by omega)]
      rfl
  · have p5 : Hx [] [(43, 5), (43, 6)] h2 h5 := by
      refine ⟨f5.sh A2.1.1 (by simp; omega), fun a j _ _ => by rw [f5.1], fun a ha _ hG => ⟨f5.at ?_, by rw [f5.2.1]⟩, fun a _ => ⟨by rw [f5.2.2.2.1], by rw [f5.2.2.1]⟩, fun r => ?_, by rw [f5.2.2.2.2.1]; exact Nat.le_refl _, fun q _ => Or.inl (by rw [f5.1])⟩
      · have h1 : a ≠ xR h2 43 5 := hG (43, 5) (by simp)
        have h2' : a ≠ xR h2 43 6 := hG (43, 6) (by simp)
        simp
        exact ⟨h1, h2'⟩
      · unfold RmOk
        rw [f5.2.2.2.2.1, f5.2.2.2.2.2.1, gl_c f5.1 f5.2.2.2.1]
        exact r
    have pB := pA.tr p5
    exact k h5 pB (A.hx pB (by decide) (by decide)) F5
theorem l_crest {my your : Nat} {i : Int32} (A : CWn T c r h) (hd : tDj T) (hm : my < 6) (hy : your < 6) (F : FW T r my your (wN T) h) (kk : Q (.int (selP (rst T r my your) i (wN T) 0 0)) h) :
    ∀ (k w n : Nat), w + k = wN T → n ≤ w → selP (rst T r my your) i (wN T) 0 0 = selP (rst T r my your) i k w n → Ev 132 57 [.ref 43, .int (nI my), .int (nI your), .int i, .null, .ref c, .int ((T 0 4 ||| T 0 5) ^^^ (-1)), .int (nI (pt T (gb ((T 0 4 ||| T 0 5) ^^^ (-1))) (wNow T r))), .int (nI n), .int (nI w)] [] h Q := by
  have W2 := A.w.2.1
  have e6 := A.w.2.2
  obtain ⟨l1, l2⟩ := A.len
  have rm := rm_56 A.2.2.2.2
  have hs := A.1.1
  have t4 : xI h c 4 = T 0 4 := by rw [A.1.t0]
  have t5 : xI h c 5 = T 0 5 := by rw [A.1.t0]
  intro k
  induction k with
  | zero =>
    intro w n hk hn e
    refine B_132_57 hs A.1.c2 ?_
    rw [e6]
    refine ⟨fun _ => ?_, fun z => absurd (nI_le (by omega) (by omega)) z⟩
    rw [e, selP_z] at kk
    refine ⟨fun z => ?_, fun z => ?_⟩
    · rw [if_neg z] at kk; exact kk
    · rw [if_pos (Classical.not_not.mp z)] at kk; exact kk
  | succ k ih =>
    intro w n hk hn e
    have hw : w < wN T := by omega
    have eV := A.2.2.2.1.2.2 w hw
    have hlt := wsh_lt (w := w) A.1.2.2.2 A.2.2.1
    have hiff := rst_iff (my := my) (your := your) A.1.2.2.2 hd A.2.2.1 hw
    have p1 := pt_lt (T := T) (b := gb (T 0 4 ^^^ (-1))) (w := w)
    have p3 := pt_lt (T := T) (b := gb (T 0 5 ^^^ (-1))) (w := w)
    have p0 := pt_lt (T := T) (b := gb ((T 0 4 ||| T 0 5) ^^^ (-1))) (w := w)
    have p9 := pt_lt (T := T) (b := gb ((T 0 4 ||| T 0 5) ^^^ (-1))) (w := wNow T r)
    have d1 := dg_le (s := wsh T r w) (p := your)
    have d2 := dg_le (s := wsh T r w) (p := my)
    have m1 := mnF_le (f := fun w => dg (wsh T r w) your) (key := pt T (gb (T 0 4 ^^^ (-1)))) (k := pt T (gb (T 0 4 ^^^ (-1))) w) (wN T)
    have m2 := mnF_le (f := fun w => dg (wsh T r w) my) (key := pt T (gb (T 0 5 ^^^ (-1)))) (k := pt T (gb (T 0 5 ^^^ (-1))) w) (wN T)
    have q6 := (F.2 _ p1).1
    have q5 := (F.2 _ p3).2
    have no : ¬ rst T r my your w → Ev 132 156 [.ref 43, .int (nI my), .int (nI your), .int i, .null, .ref c, .int ((T 0 4 ||| T 0 5) ^^^ (-1)), .int (nI (pt T (gb ((T 0 4 ||| T 0 5) ^^^ (-1))) (wNow T r))), .int (nI n), .int (nI w)] [] h Q := by
      intro hno
      rw [selP_0 hno] at e
      refine B_132_156 hs A.1.c2 ?_
      rw [nI_1]
      exact ih (w + 1) n (by omega) (by omega) e
    refine B_132_57 hs A.1.c2 ?_
    rw [e6]
    refine ⟨fun z => absurd z (nI_ge (by omega) (by omega)), fun _ => c_part A.1 (by omega) ⟨hs, fun z => no (fun q => z (by rw [(hiff.mp q).1])), fun z => ?_⟩⟩
    have z0 := (nI_eq (by omega) (by omega)).mp (Classical.not_not.mp z)
    rw [tn_nI (show w < 2 ^ 31 by omega), eV]
    refine ⟨inb (by omega) (by omega), c_dg hs (by omega) (by omega) ⟨hs, ?_⟩⟩
    rw [t4]
    refine c_part A.1 (by omega) ⟨hs, rfl, inb (by have := F.1.2; omega) (by omega), ?_⟩
    rw [tn_nI (by omega), q6]
    refine ⟨fun z => no (fun q => z (by rw [(hiff.mp q).2.1])), fun z => ?_⟩
    have z1 := (nI_eq (by omega) (by omega)).mp (Classical.not_not.mp z)
    refine ⟨inb (by omega) (by omega), ?_⟩
    rw [eV]
    refine c_dg hs (by omega) (by omega) ⟨hs, ?_⟩
    rw [t5]
    refine c_part A.1 (by omega) ⟨hs, rfl, inb (by have := F.1.1; omega) (by omega), ?_⟩
    rw [tn_nI (by omega), q5]
    refine ⟨fun z => no (fun q => z (by rw [(hiff.mp q).2.2])), fun z => ?_⟩
    have z2 := (nI_eq (by omega) (by omega)).mp (Classical.not_not.mp z)
    have yes : rst T r my your w := hiff.mpr ⟨z0, z1, z2⟩
    rw [selP_1 yes] at e
    refine ⟨fun y => ?_, fun y => ?_⟩
    · rw [if_neg y] at e
      refine B_132_156 hs A.1.c2 ?_
      rw [nI_1, nI_1]
      exact ih (w + 1) (n + 1) (by omega) (by omega) e
    · rw [if_pos (Classical.not_not.mp y)] at e
      rw [e] at kk
      exact kk
abbrev GR3 : List (Nat × Nat) := [(43, 4), (43, 5), (43, 6)]
theorem CW.hx3 (A : CW T c r h0) (p : Hx SW GR3 h0 h) (W : WOk T r h) : CW T c r h := ⟨A.1.hx p (by decide) (by decide), by rw [p.at A.1.1 (by decide) (by decide) (by decide) (by decide)]; exact A.2.1, A.2.2.1, W, p.2.2.2.2.1 A.2.2.2.2⟩
theorem c_cRests {x y i : Int32} {K : Int32 → XH → Prop} (A : CW T c r h) (hd : tDj T) (k : ∀ h1, Hx SW GR3 h h1 → CW T c r h1 → K (oRests T r x y i) h1) : ClI 131 [.ref 4, .int x, .int y, .int i] h K := by
  have p6 := A.1.p6
  unfold oRests at k
  have k00 := fun (e : K (-1) h) => e
  refine B_131_0 A.1.1 (c_cPage A.1 (fun my hp e => ⟨A.1.1, ?_⟩) (fun q => ⟨A.1.1, ?_⟩))
  · subst e
    rw [opN_1 hp (by omega)] at k
    try simp (disch := omega) only [lit, tn_nI, z_inb, nI_add, pk_mul, z_le, z_nle, z_lt, z_nlt, z_ne, z_m1, pk_sub, xI_ss, xI_sd, xI_n, eq_self, true_and, and_true, and_self, not_true_eq_false, not_false_eq_true, false_implies, true_implies, implies_true, Classical.not_not, forall_const, true_or, or_true, false_or, or_false, false_and, and_false, if_true, if_false, ite_true, ite_false, reduceIte, reduceCtorEq]
    refine c_cPage A.1 (fun your hp2 e => ⟨A.1.1, ?_⟩) (fun q => ⟨A.1.1, ?_⟩)
    · subst e
      rw [opN_1 hp2 (by omega)] at k
      try simp (disch := omega) only [lit, tn_nI, z_inb, nI_add, pk_mul, z_le, z_nle, z_lt, z_nlt, z_ne, z_m1, pk_sub, xI_ss, xI_sd, xI_n, eq_self, true_and, and_true, and_self, not_true_eq_false, not_false_eq_true, false_implies, true_implies, implies_true, Classical.not_not, forall_const, true_or, or_true, false_or, or_false, false_and, and_false, if_true, if_false, ite_true, ite_false, reduceIte, reduceCtorEq]
      by_cases hmy : my = your
      · rw [if_pos hmy] at k
        rw [hmy]
        try simp (disch := omega) only [lit, tn_nI, z_inb, nI_add, pk_mul, z_le, z_nle, z_lt, z_nlt, z_ne, z_m1, pk_sub, xI_ss, xI_sd, xI_n, eq_self, true_and, and_true, and_self, not_true_eq_false, not_false_eq_true, false_implies, true_implies, implies_true, Classical.not_not, forall_const, true_or, or_true, false_or, or_false, false_and, and_false, if_true, if_false, ite_true, ite_false, reduceIte, reduceCtorEq]
        exact ⟨_, rfl, k h (Hx.rf A.1.1) A⟩
      · rw [if_neg hmy] at k
        try simp (disch := omega) only [lit, tn_nI, z_inb, nI_add, pk_mul, z_le, z_nle, z_lt, z_nlt, z_ne, z_m1, pk_sub, xI_ss, xI_sd, xI_n, eq_self, true_and, and_true, and_self, not_true_eq_false, not_false_eq_true, false_implies, true_implies, implies_true, Classical.not_not, forall_const, true_or, or_true, false_or, or_false, false_and, and_false, if_true, if_false, ite_true, ite_false, reduceIte, reduceCtorEq]
        refine ⟨fun z => ?_, fun z => ?_⟩
        · have z : (-1 : Int32) ≤ i := z
          rw [if_neg (Int32.not_lt.mpr z)] at k
          refine B_132_0 A.1.1 (A.fill (fun h1 f1 A1 => ?_))
          have s1 := A1.1.1
          refine c_fw A1 (by omega) (by omega) (fun h2 p2' A2 F2 => ⟨A2.1.1, ?_⟩)
          have ec := A1.1.2.1
          rw [ec]
          have t4 : xI h2 c 4 = T 0 4 := by rw [A2.1.t0]
          have t5 : xI h2 c 5 = T 0 5 := by rw [A2.1.t0]
          rw [t4, t5]
          have hwl := wNow_lt A2.1.2.2.2.n A2.2.2.1
          have W2 := A2.w.2.1
          refine c_wC A2.1 (ar_39 A2.1.1) A2.2.1 A2.2.2.1 ⟨A2.1.1, c_part A2.1 (by omega) ⟨A2.1.1, ?_⟩⟩
          have pB : Hx SW GR3 h h2 := (f1.mono (by decide) (by decide) (fun q hq => gk_lt A.1.1 q (by revert q; decide))).tr (p2'.mono (by decide) (by decide) (fun q hq => gk_lt A1.1.1 q (by revert q; decide)))
          exact l_crest A2 hd (by omega) (by omega) F2 ⟨_, rfl, A2.1.1, _, rfl, k h2 pB A2.to⟩ (wN T) 0 0 (by omega) (by omega) rfl
        · have z : ¬ (-1 : Int32) ≤ i := z
          rw [if_pos (Int32.not_le.mp z)] at k
          exact ⟨_, rfl, k h (Hx.rf A.1.1) A⟩
    · rw [opN_0 q] at k
      try simp (disch := omega) only [lit, tn_nI, z_inb, nI_add, pk_mul, z_le, z_nle, z_lt, z_nlt, z_ne, z_m1, pk_sub, xI_ss, xI_sd, xI_n, eq_self, true_and, and_true, and_self, not_true_eq_false, not_false_eq_true, false_implies, true_implies, implies_true, Classical.not_not, forall_const, true_or, or_true, false_or, or_false, false_and, and_false, if_true, if_false, ite_true, ite_false, reduceIte, reduceCtorEq]
      exact ⟨_, rfl, k h (Hx.rf A.1.1) A⟩
  · rw [opN_0 q] at k
    try simp (disch := omega) only [lit, tn_nI, z_inb, nI_add, pk_mul, z_le, z_nle, z_lt, z_nlt, z_ne, z_m1, pk_sub, xI_ss, xI_sd, xI_n, eq_self, true_and, and_true, and_self, not_true_eq_false, not_false_eq_true, false_implies, true_implies, implies_true, Classical.not_not, forall_const, true_or, or_true, false_or, or_false, false_and, and_false, if_true, if_false, ite_true, ite_false, reduceIte, reduceCtorEq]
    exact ⟨_, rfl, k h (Hx.rf A.1.1) A⟩
end CR2

/-! RESTS: spec, and the class -/
/-- whose fact f is -/
def wh (T : Nat → Nat → Int32) (f : Nat) : Nat := if gb (T 0 4) f then 1 else if gb (T 0 5) f then 2 else 0
/-- the part of a world that some facts make -/
def pt (T : Nat → Nat → Int32) (b : Nat → Bool) (w : Nat) : Nat := wOf (mo T) (fun f => if b f then fIn (mo T) w f else 0) (tn (T 0 0))
def alk (T : Nat → Nat → Int32) (x w o : Nat) : Prop := ∀ f, f < tn (T 0 0) → wh T f ≠ x → fIn (mo T) w f = fIn (mo T) o f
/-- w rests: by one who changes his own facts the other's page would not be whiter -/
def rst (T : Nat → Nat → Int32) (r : Nat → Int32) (my your w : Nat) : Prop := (∀ f, f < tn (T 0 0) → wh T f = 0 → nI (fIn (mo T) w f) = r f) ∧ ∀ o, o < wN T → (alk T 1 w o → dg (wsh T r w) your ≤ dg (wsh T r o) your) ∧ (alk T 2 w o → dg (wsh T r w) my ≤ dg (wsh T r o) my)
/-- the i-th one of those that are so, c of them found; or how many -/
noncomputable def selP (P : Nat → Prop) (i : Int32) : Nat → Nat → Nat → Int32
  | 0, _, c => if i = -1 then nI c else -1
  | k + 1, w, c => @ite _ (P w) (Classical.propDecidable _) (if nI c = i then nI w else selP P i k (w + 1) (c + 1)) (selP P i k (w + 1) c)
theorem selP_1 {P : Nat → Prop} {i : Int32} {k w c : Nat} (h : P w) : selP P i (k + 1) w c = if nI c = i then nI w else selP P i k (w + 1) (c + 1) := by
  conv => lhs; unfold selP
  exact if_pos h
theorem selP_0 {P : Nat → Prop} {i : Int32} {k w c : Nat} (h : ¬ P w) : selP P i (k + 1) w c = selP P i k (w + 1) c := by
  conv => lhs; unfold selP
  exact if_neg h
theorem pt_lt {T : Nat → Nat → Int32} {b : Nat → Bool} {w : Nat} : pt T b w < wN T := wOf_lt _ (fun f _ => by
  by_cases q : b f = true
  · rw [if_pos q]; exact fIn_lt
  · rw [if_neg q]; exact Nat.zero_le _)
theorem pt_eq {T : Nat → Nat → Int32} {b : Nat → Bool} {w v : Nat} : pt T b w = pt T b v ↔ ∀ f, f < tn (T 0 0) → b f = true → fIn (mo T) w f = fIn (mo T) v f := by
  have hle : ∀ u g, (if b g then fIn (mo T) u g else 0) ≤ mo T g := fun u g => by
    by_cases q : b g = true
    · rw [if_pos q]; exact fIn_lt
    · rw [if_neg q]; exact Nat.zero_le _
  constructor
  · intro e f hf hb
    have h1 := wOf_dig (m := mo T) (d := fun f => if b f then fIn (mo T) w f else 0) (tn (T 0 0)) f (fun g _ => hle w g) hf
    have h2 := wOf_dig (m := mo T) (d := fun f => if b f then fIn (mo T) v f else 0) (tn (T 0 0)) f (fun g _ => hle v g) hf
    have e : wOf (mo T) (fun f => if b f then fIn (mo T) w f else 0) (tn (T 0 0)) = wOf (mo T) (fun f => if b f then fIn (mo T) v f else 0) (tn (T 0 0)) := e
    rw [e, h2, if_pos hb, if_pos hb] at h1
    exact h1.symm
  · intro h
    refine wOf_c _ (fun f hf => ?_)
    by_cases q : b f = true
    · rw [if_pos q, if_pos q]; exact h f hf q
    · rw [if_neg q, if_neg q]
/-- the least of f among the first n that have the key k; 4 if there is none -/
def mnF (f key : Nat → Nat) : Nat → Nat → Nat
  | 0, _ => 4
  | n + 1, k => if key n = k ∧ f n < mnF f key n k then f n else mnF f key n k
theorem mnF_le {f key : Nat → Nat} {k : Nat} : ∀ n, mnF f key n k ≤ 4 := by
  intro n
  induction n with
  | zero => exact Nat.le_refl _
  | succ n ih => unfold mnF; split <;> omega
theorem mnF_lb {f key : Nat → Nat} {k : Nat} : ∀ n o, o < n → key o = k → mnF f key n k ≤ f o := by
  intro n
  induction n with
  | zero => intro o h; omega
  | succ n ih =>
    intro o ho hk
    unfold mnF
    by_cases e : o = n
    · subst e
      split
      · exact Nat.le_refl _
      · rename_i q
        rcases Nat.lt_or_ge (f o) (mnF f key o k) with z | z
        · exact absurd ⟨hk, z⟩ q
        · exact z
    · have := ih o (by omega) hk
      split <;> omega
theorem mnF_at {f key : Nat → Nat} {k x : Nat} (hx : x ≤ 4) : ∀ n, (∀ o, o < n → key o = k → x ≤ f o) → x ≤ mnF f key n k := by
  intro n
  induction n with
  | zero => intro _; exact hx
  | succ n ih =>
    intro h
    have h1 := ih (fun o ho => h o (by omega))
    unfold mnF
    split
    · rename_i q
      exact h n (by omega) q.1
    · exact h1
/-- the one that has the least of its key -/
theorem mnF_iff {f key : Nat → Nat} {n w : Nat} (hw : w < n) (h4 : f w ≤ 4) : f w = mnF f key n (key w) ↔ ∀ o, o < n → key o = key w → f w ≤ f o := by
  constructor
  · intro e o ho hk
    rw [e]
    exact mnF_lb n o ho hk
  · intro h
    have h1 := mnF_lb (f := f) (key := key) n w hw rfl
    have h2 := mnF_at (f := f) (key := key) (k := key w) h4 n h
    omega
section CR
variable {T : Nat → Nat → Int32} {c : Nat} {h0 h : XH} {r : Nat → Int32} {Q : Value → XH → Prop}
theorem l_part {w : Nat} {m : Int32} (M : CM T c h) (hw : w < 2 ^ 31) (kk : Q (.int (nI (pt T (gb m) w))) h) : ∀ (k f : Nat), f + k = tn (T 0 0) → Ev 134 14 [.null, .int (nI w), .int m, .ref c, .int (nI (wOf (mo T) (fun f => if gb m f then fIn (mo T) w f else 0) f)), .int (nI f)] [] h Q := by
  have f8 := M.f8
  have e0 : xI h c 0 = nI (tn (T 0 0)) := by rw [M.t0]; exact M.2.2.2.f
  intro k
  induction k with
  | zero =>
    intro f hk
    refine B_134_14 M.1 M.c2 ?_
    try simp (disch := omega) only [lit, tn_nI, z_inb, nI_add, pk_mul, z_le, z_nle, z_lt, z_nlt, z_ne, z_m1, pk_sub, xI_ss, xI_sd, xI_n, eq_self, true_and, and_true, and_self, not_true_eq_false, not_false_eq_true, false_implies, true_implies, implies_true, Classical.not_not, forall_const, true_or, or_true, false_or, or_false, false_and, and_false, if_true, if_false, ite_true, ite_false, reduceIte, reduceCtorEq, e0]
    rw [show f = tn (T 0 0) by omega]
    exact kk
  | succ k ih =>
    intro f hk
    have nx := ih (f + 1) (by omega)
    have ew : wOf (mo T) (fun f => if gb m f then fIn (mo T) w f else 0) (f + 1) = wOf (mo T) (fun f => if gb m f then fIn (mo T) w f else 0) f + (if gb m f then fIn (mo T) w f else 0) * prd (mo T) f := rfl
    have e3 : xI h (c + 3) f = nI (prd (mo T) f) := by rw [M.t (by decide)]; exact M.2.2.2.w.2.2 f (by omega)
    refine B_134_14 M.1 M.c2 ?_
    rw [e0, nI_1]
    refine ⟨fun z => absurd z (nI_ge (by omega) (by omega)), fun _ => ⟨fun z => ?_, fun z => ?_⟩⟩
    · have q : ¬ gb m f = true := fun q => z ((bit_get (by omega)).mpr q)
      rw [ew, if_neg q, Nat.zero_mul, Nat.add_zero] at nx
      exact nx
    · have q : gb m f = true := (bit_get (by omega)).mp (Classical.not_not.mp z)
      rw [ew, if_pos q] at nx
      refine c_fInC M (by omega) hw ⟨M.1, ?_⟩
      try simp (disch := omega) only [lit, tn_nI, z_inb, nI_add, pk_mul, z_le, z_nle, z_lt, z_nlt, z_ne, z_m1, pk_sub, xI_ss, xI_sd, xI_n, eq_self, true_and, and_true, and_self, not_true_eq_false, not_false_eq_true, false_implies, true_implies, implies_true, Classical.not_not, forall_const, true_or, or_true, false_or, or_false, false_and, and_false, if_true, if_false, ite_true, ite_false, reduceIte, reduceCtorEq, e3]
      exact nx
theorem c_part {w : Nat} {m : Int32} {K : Int32 → XH → Prop} (M : CM T c h) (hw : w < 2 ^ 31) (k : K (nI (pt T (gb m) w)) h) : ClI 134 [.ref 43, .int (nI w), .int m] h K := by
  refine B_134_0 M.1 ?_
  rw [M.2.1]
  exact l_part M hw ⟨_, rfl, k⟩ (tn (T 0 0)) 0 (by omega)
theorem sg_ne {q q' : Nat × Nat × Nat × Nat} (s : Sh h) (hq : q ∈ shG) (hq' : q' ∈ shG) (hne : q ≠ q') : xR h q.1 q.2.1 ≠ xR h q'.1 q'.2.1 := fun e => hne (s.2.2.2.2.2.1 q hq q' hq' e)
theorem CWn.hx {S : List Nat} {G : List (Nat × Nat)} (A : CWn T c r h0) (p : Hx S G h0 h) (hS : ∀ a ∈ S, 34 ≤ a ∧ a < 124 ∧ a ≠ 39 ∧ a ≠ 43 ∧ a ≠ 46) (hG : ∀ q ∈ G, q ∈ GK ∧ q ≠ (43, 4)) : CWn T c r h := by
  have s := A.1.1
  have h7 := s.2.2.2.2.2.2.1
  obtain ⟨hgk, hg8, hgT⟩ : xK h0 (xR h0 43 4) = 1 ∧ (xR h0 43 4 = 46 ∨ 124 ≤ xR h0 43 4) ∧ xR h0 43 4 < xT h0 := s.2.2.2.2.1 (43, 4, 1, 46) (by decide)
  have eR : xR h 43 4 = xR h0 43 4 := p.2.1 43 4 (fun q => (hG _ q).2 rfl) (by omega)
  have e4 : xI h (xR h0 43 4) = xI h0 (xR h0 43 4) := by
    refine (p.2.2.1 _ hgT (fun q => ?_) (fun q hq e => ?_)).1
    · have := hS _ q
      omega
    · obtain ⟨x, hx, hxe⟩ := List.mem_map.mp (hG q hq).1
      refine sg_ne s (q := (43, 4, 1, 46)) (q' := x) (by decide) hx (fun z => (hG q hq).2 ?_) (by rw [← hxe] at e; exact e)
      rw [← hxe, ← z]
  refine ⟨A.1.hx p (fun a ha => (hS a ha).1) (fun q hq => (hG q hq).1), ?_, A.2.2.1, ?_, p.2.2.2.2.1 A.2.2.2.2⟩
  · rw [p.at s (by decide) (fun q => (hS _ q).2.2.1 rfl) (fun q hq => (hG q hq).1) (by decide)]; exact A.2.1
  · have e43 : xI h 43 = xI h0 43 := p.at s (by decide) (fun q => (hS _ q).2.2.2.1 rfl) (fun q hq => (hG q hq).1) (by decide)
    unfold WOn
    rw [eR, e43, e4, (p.2.2.2.1 _ hgT).1]
    exact A.2.2.2.1
theorem p2_le {n : Nat} (h : p2 n) : n ≤ 65536 := by
  obtain ⟨a, ha, e⟩ := h
  rw [e]
  exact Nat.pow_le_pow_right (n := 2) (by decide) ha
theorem rm_56 (rm : RmOk h) : xN h (xR h 43 5) ≤ 65536 ∧ xN h (xR h 43 6) ≤ 65536 := by
  refine ⟨p2_le ?_, p2_le ?_⟩
  · have := rm.2.2 (43, 5, 1, 47) (by decide)
    unfold okL at this
    simpa [gl] using this
  · have := rm.2.2 (43, 6, 1, 48) (by decide)
    unfold okL at this
    simpa [gl] using this
/-- what findWhitest leaves in its two rows -/
def FW (T : Nat → Nat → Int32) (r : Nat → Int32) (my your n : Nat) (h : XH) : Prop := (wN T ≤ xN h (xR h 43 5) ∧ wN T ≤ xN h (xR h 43 6)) ∧ ∀ k, k < wN T → xI h (xR h 43 6) k = nI (mnF (fun w => dg (wsh T r w) your) (pt T (gb (T 0 4 ^^^ (-1)))) n k) ∧ xI h (xR h 43 5) k = nI (mnF (fun w => dg (wsh T r w) my) (pt T (gb (T 0 5 ^^^ (-1)))) n k)
theorem l_fw {my your : Nat} {g5 g6 : Nat} (A : CWn T c r h0) (hm : my < 6) (hy : your < 6) (e5 : xR h0 43 5 = g5) (e6 : xR h0 43 6 = g6) (l5 : wN T ≤ xN h0 g5) (l6 : wN T ≤ xN h0 g6) (kk : ∀ h1, Fx [g5, g6] h0 h1 → FW T r my your (wN T) h1 → Q .null h1) :
    ∀ (k w : Nat) (h : XH), w + k = wN T → Fx [g5, g6] h0 h → FW T r my your w h → Ev 133 57 [.ref 43, .int (nI my), .int (nI your), .ref c, .int (nI w), .null, .null] [] h Q := by
  have W2 := A.w.2.1
  obtain ⟨l1, l2⟩ := A.len
  have s0 := A.1.1
  have n45 : xR h0 43 4 ≠ g5 := by rw [← e5]; exact sg_ne s0 (q := (43, 4, 1, 46)) (q' := (43, 5, 1, 47)) (by decide) (by decide) (by decide)
  have n46 : xR h0 43 4 ≠ g6 := by rw [← e6]; exact sg_ne s0 (q := (43, 4, 1, 46)) (q' := (43, 6, 1, 48)) (by decide) (by decide) (by decide)
  have n56 : g5 ≠ g6 := by rw [← e5, ← e6]; exact sg_ne s0 (q := (43, 5, 1, 47)) (q' := (43, 6, 1, 48)) (by decide) (by decide) (by decide)
  have rm := rm_56 A.2.2.2.2
  rw [e5, e6] at rm
  have hgg : 34 ≤ g5 ∧ 34 ≤ g6 := by
    have h1 := sg4_43_5 s0
    have h2 := sg4_43_6 s0
    omega
  have hS : ∀ a ∈ [g5, g6], 34 ≤ a := by intro a ha; simp at ha; omega
  have nS : 1 ∉ [g5, g6] := by simp; omega
  intro k
  induction k with
  | zero =>
    intro w h hk f hF
    have M' := A.1.fx f hS
    have eW : xI h c 6 = nI (wN T) := by rw [M'.t0]; exact A.1.2.2.2.w.2.1
    refine B_133_57 M'.1 M'.c2 ?_
    try simp (disch := omega) only [lit, tn_nI, z_inb, nI_add, pk_mul, z_le, z_nle, z_lt, z_nlt, z_ne, z_m1, pk_sub, xI_ss, xI_sd, xI_n, eq_self, true_and, and_true, and_self, not_true_eq_false, not_false_eq_true, false_implies, true_implies, implies_true, Classical.not_not, forall_const, true_or, or_true, false_or, or_false, false_and, and_false, if_true, if_false, ite_true, ite_false, reduceIte, reduceCtorEq, eW]
    rw [show w = wN T by omega] at hF
    exact kk h f hF
  | succ k ih =>
    intro w h hk f hF
    have M' := A.1.fx f hS
    have eW : xI h c 6 = nI (wN T) := by rw [M'.t0]; exact A.1.2.2.2.w.2.1
    have t4 : xI h c 4 = T 0 4 := by rw [M'.t0]
    have t5 : xI h c 5 = T 0 5 := by rw [M'.t0]
    have r4 : xR h 43 4 = xR h0 43 4 := by rw [f.1]
    have r5 : xR h 43 5 = g5 := by rw [f.1]; exact e5
    have r6 : xR h 43 6 = g6 := by rw [f.1]; exact e6
    have hN : xN h = xN h0 := f.2.2.2.1
    have eV : xI h (xR h0 43 4) w = nI (wsh T r w) := by rw [f.at (by simp; omega)]; exact A.2.2.2.1.2.2 w (by omega)
    have hlt := wsh_lt (w := w) A.1.2.2.2 A.2.2.1
    have p1 := pt_lt (T := T) (b := gb (T 0 4 ^^^ (-1))) (w := w)
    have p3 := pt_lt (T := T) (b := gb (T 0 5 ^^^ (-1))) (w := w)
    have d1 := dg_le (s := wsh T r w) (p := your)
    have d2 := dg_le (s := wsh T r w) (p := my)
    have q6 := (hF.2 _ p1).1
    have q5 := (hF.2 _ p3).2
    rw [r6] at q6
    rw [r5] at q5
    refine B_133_57 M'.1 M'.c2 ?_
    rw [eW, t4]
    refine ⟨fun z => absurd z (nI_ge (by omega) (by omega)), fun _ => ?_⟩
    refine c_part M' (by omega) ⟨M'.1, ?_⟩
    rw [t5]
    refine c_part M' (by omega) ⟨M'.1, ?_⟩
    rw [r4, r6, hN, tn_nI (show w < 2 ^ 31 by omega), tn_nI (show pt T (gb (T 0 4 ^^^ (-1))) w < 2 ^ 31 by omega), tn_nI (show pt T (gb (T 0 5 ^^^ (-1))) w < 2 ^ 31 by omega), eV]
    generalize hp1 : pt T (gb (T 0 4 ^^^ (-1))) w = k1 at p1 q6 ⊢
    generalize hp3 : pt T (gb (T 0 5 ^^^ (-1))) w = k2 at p3 q5 ⊢
    refine ⟨inb (by omega) (by omega), inb (by omega) (by omega), c_dg M'.1 (by omega) (by omega) ⟨M'.1, by rw [r6], ?_⟩⟩
    rw [r6, r5, r4, hN, q6]
    have m1 := mnF_le (f := fun w => dg (wsh T r w) your) (key := pt T (gb (T 0 4 ^^^ (-1)))) (k := k1) w
    have m2 := mnF_le (f := fun w => dg (wsh T r w) my) (key := pt T (gb (T 0 5 ^^^ (-1)))) (k := k2) w
    have x1 : (if nI (dg (wsh T r w) your) < nI (mnF (fun w => dg (wsh T r w) your) (pt T (gb (T 0 4 ^^^ (-1)))) w k1) then nI (dg (wsh T r w) your) else nI (mnF (fun w => dg (wsh T r w) your) (pt T (gb (T 0 4 ^^^ (-1)))) w k1)) = nI (mnF (fun w => dg (wsh T r w) your) (pt T (gb (T 0 4 ^^^ (-1)))) (w + 1) k1) := by
      show _ = nI (if pt T (gb (T 0 4 ^^^ (-1))) w = k1 ∧ dg (wsh T r w) your < mnF (fun w => dg (wsh T r w) your) (pt T (gb (T 0 4 ^^^ (-1)))) w k1 then dg (wsh T r w) your else mnF (fun w => dg (wsh T r w) your) (pt T (gb (T 0 4 ^^^ (-1)))) w k1)
      by_cases z : dg (wsh T r w) your < mnF (fun w => dg (wsh T r w) your) (pt T (gb (T 0 4 ^^^ (-1)))) w k1
      · rw [if_pos (nI_lt z (by omega)), if_pos ⟨hp1, z⟩]
      · rw [if_neg (nI_nlt (by omega) (by omega)), if_neg (fun y => z y.2)]
    rw [x1]
    generalize hv1 : mnF (fun w => dg (wsh T r w) your) (pt T (gb (T 0 4 ^^^ (-1)))) (w + 1) k1 = v1
    have f1 : Fx [g5, g6] h0 (xsI h g6 k1 (nI v1)) := f.set (by simp)
    have M1 := A.1.fx f1 hS
    have a4 : xI (xsI h g6 k1 (nI v1)) (xR h0 43 4) w = nI (wsh T r w) := by rw [xI_n n46]; exact eV
    have a5 : xI (xsI h g6 k1 (nI v1)) g5 k2 = nI (mnF (fun w => dg (wsh T r w) my) (pt T (gb (T 0 5 ^^^ (-1)))) w k2) := by rw [xI_n n56]; exact q5
    have hN1 : xN (xsI h g6 k1 (nI v1)) = xN h0 := hN
    rw [a4, hN1]
    refine ⟨inb (by omega) (by omega), inb (by omega) (by omega), inb (by omega) (by omega), c_dg M1.1 (by omega) (by omega) ⟨M1.1, r5, ?_⟩⟩
    have r5' : xR (xsI h g6 k1 (nI v1)) 43 5 = g5 := r5
    rw [r5', hN1, a5]
    have x2 : (if nI (dg (wsh T r w) my) < nI (mnF (fun w => dg (wsh T r w) my) (pt T (gb (T 0 5 ^^^ (-1)))) w k2) then nI (dg (wsh T r w) my) else nI (mnF (fun w => dg (wsh T r w) my) (pt T (gb (T 0 5 ^^^ (-1)))) w k2)) = nI (mnF (fun w => dg (wsh T r w) my) (pt T (gb (T 0 5 ^^^ (-1)))) (w + 1) k2) := by
      show _ = nI (if pt T (gb (T 0 5 ^^^ (-1))) w = k2 ∧ dg (wsh T r w) my < mnF (fun w => dg (wsh T r w) my) (pt T (gb (T 0 5 ^^^ (-1)))) w k2 then dg (wsh T r w) my else mnF (fun w => dg (wsh T r w) my) (pt T (gb (T 0 5 ^^^ (-1)))) w k2)
      by_cases z : dg (wsh T r w) my < mnF (fun w => dg (wsh T r w) my) (pt T (gb (T 0 5 ^^^ (-1)))) w k2
      · rw [if_pos (nI_lt z (by omega)), if_pos ⟨hp3, z⟩]
      · rw [if_neg (nI_nlt (by omega) (by omega)), if_neg (fun y => z y.2)]
    rw [x2]
    refine ⟨inb (by omega) (by omega), fun h9 e9 => ?_⟩
    rw [e9, nI_1]
    generalize hv2 : mnF (fun w => dg (wsh T r w) my) (pt T (gb (T 0 5 ^^^ (-1)))) (w + 1) k2 = v2
    have f2 : Fx [g5, g6] h0 (xsI (xsI h g6 k1 (nI v1)) g5 k2 (nI v2)) := f1.set (by simp)
    refine ih (w + 1) _ (by omega) f2 ?_
    have r5'' : xR (xsI (xsI h g6 k1 (nI v1)) g5 k2 (nI v2)) 43 5 = g5 := r5
    have r6'' : xR (xsI (xsI h g6 k1 (nI v1)) g5 k2 (nI v2)) 43 6 = g6 := r6
    have hN2 : xN (xsI (xsI h g6 k1 (nI v1)) g5 k2 (nI v2)) = xN h0 := hN
    refine ⟨by rw [r5'', r6'', hN2]; exact ⟨l5, l6⟩, fun j hj => ?_⟩
    have o := hF.2 j hj
    rw [r6, r5] at o
    rw [r5'', r6'']
    constructor
    · rw [xI_n (Ne.symm n56)]
      by_cases z : j = k1
      · subst z; rw [xI_ss, hv1]
      · rw [xI_sd z, o.1]
        show nI _ = nI (if pt T (gb (T 0 4 ^^^ (-1))) w = j ∧ _ then _ else _)
        rw [if_neg (fun y => z (by rw [← hp1]; exact y.1.symm))]
    · by_cases z : j = k2
      · subst z; rw [xI_ss, hv2]
      · rw [xI_sd z, xI_n n56, o.2]
        show nI _ = nI (if pt T (gb (T 0 5 ^^^ (-1))) w = j ∧ _ then _ else _)
        rw [if_neg (fun y => z (by rw [← hp3]; exact y.1.symm))]
end CR

/-! READING: the text's state as the one side holds it; claims -/
abbrev Fa : Type := List Nat × Nat × Nat × Nat
abbrev Cm : Type := Nat × Nat × Nat × Nat × Nat
abbrev Pg : Type := List Nat × Nat × List Cm
abbrev Lw : Type := Nat × Nat × Nat × Nat
abbrev St : Type := List Fa × List Pg × List Lw × List Br × Nat × Nat × Nat
abbrev Tx : Type := Except (Nat × Nat) (Co × St)
def faA (F : List Fa) (f : Nat) : Fa := F.getD f ([], 0, 0, 0)
def pgA (G : List Pg) (p : Nat) : Pg := G.getD p ([], 0, [])
def cmA (l : List Cm) (c : Nat) : Cm := l.getD c (0, 0, 0, 0, 0)
def cl13 (m : Nat) : Nat := if m < 1 then 1 else if m < 3 then m else 3
def wcF (F : List Fa) : Nat → Nat
  | 0 => 1
  | f + 1 => if wcF F f * (cl13 (faA F f).2.1 + 1) < 2000 then wcF F f * (cl13 (faA F f).2.1 + 1) else 2000
def lwA : List Lw → Nat → Int32
  | [], _ => -1
  | (g, s, _, _) :: t, f => if g = f then nI s else lwA t f
def whB (F : List Fa) (w : Nat) : Int32 := bor (fun f => if (faA F f).2.2.2 = w then bt f else 0) F.length
def fR (it : Nat) (F : List Fa) (h : XH) : Prop := F.length ≤ 8 ∧ xI h it 0 = nI F.length ∧ xI h it 6 = nI (wcF F F.length) ∧ xI h it 4 = whB F 1 ∧ xI h it 5 = whB F 2 ∧ (∀ f, f < 8 → ∃ m, m ≤ 3 ∧ xI h (it + 1) f = nI m) ∧ ∀ f, f < F.length → xI h (it + 1) f = nI (cl13 (faA F f).2.1) ∧ xI h (it + 2) f = nI (faA F f).2.2.1 ∧ (faA F f).2.1 < 10000 ∧ (faA F f).2.2.1 < 10000 ∧ xI h (it + 3) f = nI (wcF F f) ∧ xL h 12 f = oL (enc 32 (faA F f).1) ∧ okN (faA F f).1 ∧ (faA F f).1.length ≤ 8
def gR (it : Nat) (G : List Pg) (h : XH) : Prop := G.length ≤ 6 ∧ xI h it 1 = nI G.length ∧ (∀ p, G.length ≤ p → p < 6 → xI h (it + 6) p = nI 0) ∧ ∀ p, p < G.length → xI h (it + 5) p = nI (pgA G p).2.1 ∧ (pgA G p).2.1 ≤ 2 ∧ xI h (it + 6) p = nI (pgA G p).2.2.length ∧ (pgA G p).2.2.length ≤ 6 ∧ xL h 13 p = oL (enc 32 (pgA G p).1) ∧ okN (pgA G p).1 ∧ (pgA G p).1.length ≤ 8 ∧ ∀ c, c < (pgA G p).2.2.length → xI h (it + 8) (p * 6 + c) = nI (cmA (pgA G p).2.2 c).1 ∧ (cmA (pgA G p).2.2 c).1 ≤ 512
def lR (it : Nat) (LW : List Lw) (h : XH) : Prop := ∀ f, f < 8 → xI h (it + 4) f = lwA LW f
def oR (it sl sd pg : Nat) (h : XH) : Prop := xI h it 2 = nI sl ∧ sl < 10000 ∧ xI h it 3 = nI sd ∧ sd < 10000 ∧ xI h 6 6 = nI pg ∧ pg ≤ 6 ∧ xI h it 8 = nI 1 ∧ ∀ p, p < 6 → xI h (it + 7) p = nI 0
def sR (it : Nat) (st : St) (h : XH) : Prop := fR it st.1 h ∧ gR it st.2.1 h ∧ lR it st.2.2.1 h ∧ oR it st.2.2.2.2.1 st.2.2.2.2.2.1 st.2.2.2.2.2.2 h
def tR2 (it : Nat) (B : Nat → Nat) (n : Nat) (x : Tx) (h : XH) : Prop := match x with
  | .error e => RC it B n (.error e) h
  | .ok (co, st) => RC it B n (.ok co) h ∧ sR it st h
section EWS
variable {it : Nat} {h h1 : XH} {st : St} {F : List Fa} {G : List Pg} {LW : List Lw} {sl sd pg : Nat}
theorem fR.ew (hit : it = 14 ∨ it = 24) (r : fR it F h) (f : EW it h h1) : fR it F h1 := by
  have c1 : xI h1 (it + 1) = xI h (it + 1) := f.1.at (by simp; omega)
  have c2 : xI h1 (it + 2) = xI h (it + 2) := f.1.at (by simp; omega)
  have c3 : xI h1 (it + 3) = xI h (it + 3) := f.1.at (by simp; omega)
  have c12 : xL h1 12 = xL h 12 := f.1.al (by simp)
  unfold fR
  rw [c1, c2, c3, c12, f.2.2 0 (by decide), f.2.2 6 (by decide), f.2.2 4 (by decide), f.2.2 5 (by decide)]
  exact r
theorem gR.ew (hit : it = 14 ∨ it = 24) (r : gR it G h) (f : EW it h h1) : gR it G h1 := by
  have c5 : xI h1 (it + 5) = xI h (it + 5) := f.1.at (by simp; omega)
  have c6 : xI h1 (it + 6) = xI h (it + 6) := f.1.at (by simp; omega)
  have c8 : xI h1 (it + 8) = xI h (it + 8) := f.1.at (by simp; omega)
  have c13 : xL h1 13 = xL h 13 := f.1.al (by simp)
  unfold gR
  rw [c5, c6, c8, c13, f.2.2 1 (by decide)]
  exact r
theorem lR.ew (hit : it = 14 ∨ it = 24) (r : lR it LW h) (f : EW it h h1) : lR it LW h1 := by
  have c4 : xI h1 (it + 4) = xI h (it + 4) := f.1.at (by simp; omega)
  unfold lR
  rw [c4]
  exact r
theorem oR.ew (hit : it = 14 ∨ it = 24) (r : oR it sl sd pg h) (f : EW it h h1) : oR it sl sd pg h1 := by
  have c7 : xI h1 (it + 7) = xI h (it + 7) := f.1.at (by simp; omega)
  unfold oR
  rw [c7, f.2.2 2 (by decide), f.2.2 3 (by decide), f.2.2 8 (by decide), f.2.1 6 (by decide)]
  exact r
theorem sR.ew (hit : it = 14 ∨ it = 24) (r : sR it st h) (f : EW it h h1) : sR it st h1 := ⟨r.1.ew hit f, r.2.1.ew hit f, r.2.2.1.ew hit f, r.2.2.2.ew hit f⟩
theorem oR.pg6 (r : oR it sl sd pg h) : xI h 6 6 = nI pg ∧ pg ≤ 6 := ⟨r.2.2.2.2.1, r.2.2.2.2.2.1⟩
end EWS
theorem nS_ok {B : Nat → Nat} {n j : Nat} (hk : kS B n j = 2) : okN (nS B n j) ∧ (nS B n j).length ≤ 8 := by
  unfold kS at hk
  by_cases q : pS B n j < n
  · rw [if_pos q] at hk
    unfold tK at hk
    by_cases l : isL (B (pS B n j)) = true
    · rw [if_pos l] at hk
      have h8 : tE B n (pS B n j) - pS B n j ≤ 8 := by
        split at hk
        · cases hk
        · omega
      have eE : tE B n (pS B n j) = enR isL B n (pS B n j) := by unfold tE; rw [if_pos l]
      unfold nS
      refine ⟨ltS_ok _ (fun a ha => enR_all (n - pS B n j) (pS B n j) rfl (pS B n j + a) (by omega) (by rw [← eE]; omega)), by rw [ltS_len]; exact h8⟩
    · rw [if_neg l] at hk
      split at hk
      · split at hk <;> cases hk
      · split at hk
        · rename_i hS
          unfold isS at hS
          simp at hS
          omega
        · cases hk
  · rw [if_neg q] at hk
    cases hk
/-- where a name stands among facts, among pages -/
def fiF (nm : List Nat) (F : List Fa) : Nat → Nat → Option Nat
  | 0, _ => none
  | k + 1, f => if (faA F f).1 = nm then some f else fiF nm F k (f + 1)
def fiG (nm : List Nat) (G : List Pg) : Nat → Nat → Option Nat
  | 0, _ => none
  | k + 1, p => if (pgA G p).1 = nm then some p else fiG nm G k (p + 1)
def oIx (o : Option Nat) : Int32 := match o with
  | none => -1
  | some f => nI f
def told (nm : List Nat) (F : List Fa) (G : List Pg) : Bool := (fiF nm F F.length 0).isSome || (fiG nm G G.length 0).isSome
section CNM
variable {it : Nat} {B : Nat → Nat} {n : Nat} {h h0 : XH} {m : Md} {F : List Fa} {G : List Pg} {Q : Value → XH → Prop}
theorem enc32_i {l m : List Nat} (hl : okN l ∧ l.length ≤ 8) (hm : okN m ∧ m.length ≤ 8) : oL (enc 32 l) = oL (enc 32 m) ↔ l = m := by
  constructor
  · intro q
    have h1 := enc32_lt hl.1 hl.2
    have h2 := enc32_lt hm.1 hm.2
    exact enc_inj (by decide) _ _ hl.1 hm.1 (oL_inj (by omega) (by omega) q)
  · intro q; rw [q]
theorem l_fiF {nm : List Nat} (c : CB it B n h) (r : fR it F h) (hn : okN nm ∧ nm.length ≤ 8) : ∀ (k f : Nat), f + k = F.length → Q (.int (oIx (fiF nm F k f))) h → Ev 29 2 [.ref 6, .long (oL (enc 32 nm)), .null, .int (nI f)] [] h Q := by
  have l8 := r.1
  intro k
  induction k with
  | zero =>
    intro f hk kk
    refine B_29_2 c.1 c.2.1 c.2.2.1 ?_
    rw [r.2.1]
    exact ⟨fun _ => kk, fun z => absurd (nI_le (by omega) (by omega)) z⟩
  | succ k ih =>
    intro f hk kk
    obtain ⟨a1, a2, a3, a4, a5, a6, a7, a8⟩ := r.2.2.2.2.2.2 f (by omega)
    have e : fiF nm F (k + 1) f = if (faA F f).1 = nm then some f else fiF nm F k (f + 1) := rfl
    have hi := enc32_i ⟨a7, a8⟩ hn
    refine B_29_2 c.1 c.2.1 c.2.2.1 ?_
    rw [r.2.1, tn_nI (show f < 2 ^ 31 by omega), a6, lg_cmp_eq, nI_1]
    refine ⟨fun z => absurd z (nI_ge (by omega) (by omega)), fun _ => ⟨inb (by omega) (by decide), fun z => ?_, fun z => ?_⟩⟩
    · rw [e, if_neg (fun q => z (hi.mpr q))] at kk
      exact ih (f + 1) (by omega) kk
    · rw [e, if_pos (hi.mp (Classical.not_not.mp z))] at kk
      exact kk
theorem l_fiG {nm : List Nat} (c : CB it B n h) (r : gR it G h) (hn : okN nm ∧ nm.length ≤ 8) : ∀ (k f : Nat), f + k = G.length → Q (.int (oIx (fiG nm G k f))) h → Ev 30 2 [.ref 6, .long (oL (enc 32 nm)), .null, .int (nI f)] [] h Q := by
  have l8 := r.1
  intro k
  induction k with
  | zero =>
    intro f hk kk
    refine B_30_2 c.1 c.2.1 c.2.2.1 ?_
    rw [r.2.1]
    exact ⟨fun _ => kk, fun z => absurd (nI_le (by omega) (by omega)) z⟩
  | succ k ih =>
    intro f hk kk
    obtain ⟨a1, a2, a3, a4, a5, a6, a7, a8⟩ := r.2.2.2 f (by omega)
    have e : fiG nm G (k + 1) f = if (pgA G f).1 = nm then some f else fiG nm G k (f + 1) := rfl
    have hi := enc32_i ⟨a6, a7⟩ hn
    refine B_30_2 c.1 c.2.1 c.2.2.1 ?_
    rw [r.2.1, tn_nI (show f < 2 ^ 31 by omega), a5, lg_cmp_eq, nI_1]
    refine ⟨fun z => absurd z (nI_ge (by omega) (by omega)), fun _ => ⟨inb (by omega) (by decide), fun z => ?_, fun z => ?_⟩⟩
    · rw [e, if_neg (fun q => z (hi.mpr q))] at kk
      exact ih (f + 1) (by omega) kk
    · rw [e, if_pos (hi.mp (Classical.not_not.mp z))] at kk
      exact kk
theorem fiF_lt {nm : List Nat} : ∀ k f g, fiF nm F k f = some g → f ≤ g ∧ g < f + k := by
  intro k
  induction k with
  | zero => intro f g e; cases e
  | succ k ih =>
    intro f g e
    have e : (if (faA F f).1 = nm then some f else fiF nm F k (f + 1)) = some g := e
    split at e
    · cases e; omega
    · have := ih (f + 1) g e; omega
theorem fiG_lt {nm : List Nat} : ∀ k f g, fiG nm G k f = some g → f ≤ g ∧ g < f + k := by
  intro k
  induction k with
  | zero => intro f g e; cases e
  | succ k ih =>
    intro f g e
    have e : (if (pgA G f).1 = nm then some f else fiG nm G k (f + 1)) = some g := e
    split at e
    · cases e; omega
    · have := ih (f + 1) g e; omega
theorem c_tldC {nm : List Nat} {K : Int32 → XH → Prop} (c : CB it B n h) (r : fR it F h) (rg : gR it G h) (hn : okN nm ∧ nm.length ≤ 8) (k1 : told nm F G = true → K (nI 1) h) (k0 : told nm F G = false → K (nI 0) h) : ClI 28 [.ref 6, .long (oL (enc 32 nm))] h K := by
  have l8 := r.1
  have l6 := rg.1
  refine B_28_0 c.1 c.2.1 c.2.2.1 (B_29_0 c.1 c.2.1 c.2.2.1 (l_fiF c r hn F.length 0 (by omega) ⟨_, rfl, c.1, c.2.2.1, ?_⟩))
  cases e : fiF nm F F.length 0 with
  | some f =>
    have := fiF_lt _ _ _ e
    exact ⟨fun _ => ⟨_, rfl, k1 (by unfold told; rw [e]; rfl)⟩, fun z => absurd (nI_le (a := 0) (b := f) (by omega) (by omega)) z⟩
  | none =>
    refine ⟨fun z => absurd z (by decide), fun _ => B_30_0 c.1 c.2.1 c.2.2.1 (l_fiG c rg hn G.length 0 (by omega) ⟨_, rfl, c.1, c.2.2.1, ?_⟩)⟩
    cases e2 : fiG nm G G.length 0 with
    | some f =>
      have := fiG_lt _ _ _ e2
      exact ⟨fun z => absurd z (nI_pos (by omega)), fun _ => ⟨_, rfl, k1 (by unfold told; rw [e, e2]; rfl)⟩⟩
    | none => exact ⟨fun _ => ⟨_, rfl, k0 (by unfold told; rw [e, e2]; rfl)⟩, fun z => absurd (by decide : oIx none < 0) z⟩
end CNM
section CLS
variable (k p v : Nat → Nat) (pg : Nat)
def cm1 (m : Md) : Md := exS k p v false pg m
def sgM (m : Md) : Md := match m with
  | .error e => .error e
  | .ok (a, sf, cs, rs) => if k a = 60 ∨ k a = 61 ∨ k a = 62 then tkS k p (k a) (.ok (a, sf, cs, rs)) else .error (1, p a)
def cm2 (m : Md) : Md := sgM k p (cm1 k p v pg m)
def cm3 (m : Md) : Md := exS k p v false pg (cm2 k p v pg m)
def soM (m : Md) : Nat := if k (atM (cm1 k p v pg m)) = 60 then 0 else if k (atM (cm1 k p v pg m)) = 61 then 1 else 2
def cmS (m : Md) : Md := puS (10, 0) (puS (6 + soM k p v pg m, 0) (cm3 k p v pg m))
def cmB (m : Md) : Cm := (clM m, rlM m, rlM (cm2 k p v pg m), rlM (cm3 k p v pg m), soM k p v pg m)
end CLS
section CCL
variable {it : Nat} {B : Nat → Nat} {n : Nat} {h h0 : XH} {m : Md} {pg : Nat} {Q : Value → XH → Prop}
theorem l_c106e {e : Nat × Nat} {x1 : Int32} (hB : ∀ i, B i < 256) (hpg : pg ≤ 6) (r : RC it B n (.error e) h) (e66 : xI h 6 6 = nI pg) (kk : ∀ h1, EW it h h1 → RC it B n (.error e) h1 → Q .null h1) : Ev 42 106 [.ref 6, .int x1] [] h Q := by
  have two : ∀ (op : Nat) (h1 : XH), op < 12 → EW it h h1 → RC it B n (.error e) h1 → ClV 37 [.ref 6, .int (nI op), .int (nI 0)] h1 (fun h3 => Sh h3 ∧ xR h3 6 8 = it ∧ (ClV 37 [.ref 6, .int (nI 10), .int (nI 0)] h3 (fun h5 => Sh h5 ∧ xR h5 6 8 = it ∧ (Q .null h5)))) := by
    intro op h1 ho f1 r1
    refine c_put (op := op) (w := 0) (c := (op, 0)) (by omega) (by decide) (by unfold cw; rw [if_neg (by show op ≠ 12; omega)]) r1 (fun h3 f3 r3 => ⟨r3.sh, r3.r, ?_⟩)
    refine c_put (op := 10) (w := 0) (c := (10, 0)) (by decide) (by decide) rfl r3 (fun h5 f5 r5 => ⟨r5.sh, r5.r, kk h5 ((f1.tr f3.w).tr f5.w) r5⟩)
  refine B_42_106 r.sh r.i2 r.r (c_expr (law := false) hB hpg r e66 (fun h1 f1 r1 => ⟨r1.sh, r1.r, ⟨fun _ => ⟨fun _ => two 8 h1 (by decide) f1 r1, fun _ => two 7 h1 (by decide) f1 r1⟩, fun _ => two 6 h1 (by decide) f1 r1⟩⟩))
theorem l_c92e {e : Nat × Nat} {x1 : Int32} (hB : ∀ i, B i < 256) (hpg : pg ≤ 6) (r : RC it B n (.error e) h) (e66 : xI h 6 6 = nI pg) (kk : ∀ h1, EW it h h1 → RC it B n (.error e) h1 → Q .null h1) : Ev 42 92 [.ref 6, .int x1] [] h Q :=
  B_42_92 r.sh r.i2 r.r (c_takeE r ⟨r.sh, r.r, l_c106e hB hpg r e66 kk⟩)
/-- from the first expression of a claim on -/
theorem l_claim {m : Md} (hB : ∀ i, B i < 256) (hpg : pg ≤ 6) (r : RC it B n m h) (e66 : xI h 6 6 = nI pg) (kk : ∀ h1, EW it h h1 → RC it B n (cmS (kS B n) (pS B n) (vS B n) pg m) h1 → Q .null h1) : ClV 34 [.ref 6, .int 0] h (fun h2 => Sh h2 ∧ xR h2 6 8 = it ∧ (InB (xI h2 6 5) 402 ∧ ((((xI h2 8 (tn (xI h2 6 5))) = 60) → Ev 42 92 [.ref 6, .int (xI h2 8 (tn (xI h2 6 5)))] [] h2 Q) ∧ (¬ ((xI h2 8 (tn (xI h2 6 5))) = 60) → (((xI h2 8 (tn (xI h2 6 5))) = 61) → Ev 42 92 [.ref 6, .int (xI h2 8 (tn (xI h2 6 5)))] [] h2 Q) ∧ (¬ ((xI h2 8 (tn (xI h2 6 5))) = 61) → ((¬ (xI h2 8 (tn (xI h2 6 5))) = 62) → ClV 25 [.ref 6, .int 1] h2 (fun h4 => Sh h4 ∧ xR h4 6 8 = it ∧ (Ev 42 106 [.ref 6, .int (xI h2 8 (tn (xI h2 6 5)))] [] h4 Q))) ∧ (¬ (¬ (xI h2 8 (tn (xI h2 6 5))) = 62) → Ev 42 92 [.ref 6, .int (xI h2 8 (tn (xI h2 6 5)))] [] h2 Q)))))) := by
  refine c_expr (law := false) hB hpg r e66 (fun h2 f2 r2 => ⟨r2.sh, r2.r, ?_⟩)
  have e62 : xI h2 6 6 = nI pg := by rw [f2.2.1 6 (by decide)]; exact e66
  have r2 : RC it B n (cm1 (kS B n) (pS B n) (vS B n) pg m) h2 := r2
  match hm : cm1 (kS B n) (pS B n) (vS B n) pg m with
  | .error e =>
    rw [hm] at r2
    have eS : cmS (kS B n) (pS B n) (vS B n) pg m = .error e := by unfold cmS cm3 cm2; rw [hm]; rfl
    rw [eS] at kk
    obtain ⟨e1, e2, e3, e4, e5, ⟨b, e6, e7⟩, l, e8, e9⟩ := r2.2
    have k2 : ∀ h1, EW it h2 h1 → RC it B n (.error e) h1 → Q .null h1 := fun h1 g rr => kk h1 (f2.tr g) rr
    rw [e7]
    refine ⟨inb (by omega) (by decide), fun _ => l_c92e hB hpg r2 e62 k2, fun _ => ⟨fun _ => l_c92e hB hpg r2 e62 k2, fun _ => ⟨fun _ => ?_, fun _ => l_c92e hB hpg r2 e62 k2⟩⟩⟩
    refine c_blame (x := 1) (by decide) r2 (fun h4 f4 r4 => ⟨r4.sh, r4.r, ?_⟩)
    exact l_c106e hB hpg r4 (by rw [f4.2.1 6 (by decide)]; exact e62) (fun h1 g rr => k2 h1 (f4.w.tr g) rr)
  | .ok (a, sf, cs, rs) =>
    rw [hm] at r2
    have k9 := r2.k
    have e5 : xI h2 6 5 = nI a := r2.2.2.2.1
    have kl := kS_lt (n := n) hB a
    have e : ∀ y, y < 256 → (nI (kS B n a) = nI y ↔ kS B n a = y) := fun y hy => nI_eq (by omega) (by omega)
    have eSo : soM (kS B n) (pS B n) (vS B n) pg m = if kS B n a = 60 then 0 else if kS B n a = 61 then 1 else 2 := by unfold soM; rw [hm]; rfl
    have e2m : cm2 (kS B n) (pS B n) (vS B n) pg m = if kS B n a = 60 ∨ kS B n a = 61 ∨ kS B n a = 62 then tkS (kS B n) (pS B n) (kS B n a) (.ok (a, sf, cs, rs)) else .error (1, pS B n a) := by unfold cm2; rw [hm]; rfl
    rw [e5, tn_nI (show a < 2 ^ 31 by omega), k9.1]
    have fin : ∀ (h4 : XH), EW it h h4 → RC it B n (cm2 (kS B n) (pS B n) (vS B n) pg m) h4 → Ev 42 106 [.ref 6, .int (nI (kS B n a))] [] h4 Q := by
      intro h4 f4 r4
      have two : ∀ (op : Nat) (h1 : XH), op = 6 + soM (kS B n) (pS B n) (vS B n) pg m → op < 12 → EW it h h1 → RC it B n (cm3 (kS B n) (pS B n) (vS B n) pg m) h1 → ClV 37 [.ref 6, .int (nI op), .int (nI 0)] h1 (fun h3 => Sh h3 ∧ xR h3 6 8 = it ∧ (ClV 37 [.ref 6, .int (nI 10), .int (nI 0)] h3 (fun h5 => Sh h5 ∧ xR h5 6 8 = it ∧ (Q .null h5)))) := by
        intro op h1 eo ho f1 r1
        refine c_put (op := op) (w := 0) (c := (6 + soM (kS B n) (pS B n) (vS B n) pg m, 0)) (by omega) (by decide) (by rw [← eo]; unfold cw; rw [if_neg (by show op ≠ 12; omega)]) r1 (fun h3 f3 r3 => ⟨r3.sh, r3.r, ?_⟩)
        exact c_put (op := 10) (w := 0) (c := (10, 0)) (by decide) (by decide) rfl r3 (fun h5 f5 r5 => ⟨r5.sh, r5.r, kk h5 ((f1.tr f3.w).tr f5.w) r5⟩)
      refine B_42_106 r4.sh r4.i2 r4.r (c_expr (law := false) hB hpg r4 (by rw [f4.2.1 6 (by decide)]; exact e66) (fun h1 f1 r1 => ⟨r1.sh, r1.r, ⟨fun z0 => ⟨fun z1 => ?_, fun z1 => ?_⟩, fun z0 => ?_⟩⟩))
      · exact two 8 h1 (by rw [eSo, if_neg (fun q => z0 ((e 60 (by decide)).mpr q)), if_neg (fun q => z1 ((e 61 (by decide)).mpr q))]) (by decide) (f4.tr f1) r1
      · exact two 7 h1 (by rw [eSo, if_neg (fun q => z0 ((e 60 (by decide)).mpr q)), if_pos ((e 61 (by decide)).mp (Classical.not_not.mp z1))]) (by decide) (f4.tr f1) r1
      · exact two 6 h1 (by rw [eSo, if_pos ((e 60 (by decide)).mp (Classical.not_not.mp z0))]) (by decide) (f4.tr f1) r1
    have go : (kS B n a = 60 ∨ kS B n a = 61 ∨ kS B n a = 62) → Ev 42 92 [.ref 6, .int (nI (kS B n a))] [] h2 Q := by
      intro q
      rw [if_pos q] at e2m
      refine B_42_92 r2.sh r2.i2 r2.r (c_takeM hB kl (by omega) r2 (fun h4 v4 f4 r4 => ⟨r4.sh, r4.r, fin h4 (f2.tr f4.w) ?_⟩))
      rw [e2m]
      exact r4
    refine ⟨inb (by omega) (by decide), fun z => go (Or.inl ((e 60 (by decide)).mp z)), fun z0 => ⟨fun z => go (Or.inr (Or.inl ((e 61 (by decide)).mp z))), fun z1 => ⟨fun z2 => ?_, fun z => go (Or.inr (Or.inr ((e 62 (by decide)).mp (Classical.not_not.mp z))))⟩⟩⟩
    rw [if_neg (fun q => q.elim (fun q => z0 ((e 60 (by decide)).mpr q)) (fun q => q.elim (fun q => z1 ((e 61 (by decide)).mpr q)) (fun q => z2 ((e 62 (by decide)).mpr q))))] at e2m
    refine c_blame (x := 1) (by decide) r2 (fun h4 f4 r4 => ⟨r4.sh, r4.r, fin h4 (f2.tr f4.w) ?_⟩)
    rw [e2m]
    exact r4
end CCL

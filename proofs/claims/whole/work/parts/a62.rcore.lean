/-! READING: the other side; its tokens, faults and codes -/
/-- how many places of a row one side has -/
def wd (a : Nat) : Nat := if a = 79 ∨ a = 83 ∨ a = 84 ∨ a = 92 ∨ a = 93 then 1 else if a = 80 ∨ a = 81 ∨ a = 82 ∨ a = 96 ∨ a = 97 then 8 else if a = 85 ∨ a = 86 ∨ a = 87 then 6 else if a = 88 ∨ a = 89 ∨ a = 90 ∨ a = 91 then 36 else if a = 98 ∨ a = 99 ∨ a = 100 ∨ a = 101 ∨ a = 102 then 130 else if a = 103 ∨ a = 104 then 420 else 0
/-- the other side is kept -/
def othS (s : Nat) (h h1 : XH) : Prop := ∀ a j, wd a ≠ 0 → ¬ (wd a * s ≤ j ∧ j < wd a * s + wd a) → xI h1 a j = xI h a j
def inS (s a j : Nat) : Prop := wd a = 0 ∨ (wd a * s ≤ j ∧ j < wd a * s + wd a)
theorem othS.rf {s : Nat} {h : XH} : othS s h h := fun _ _ _ _ => rfl
theorem othS.tr {s : Nat} {h h1 h2 : XH} (p : othS s h h1) (q : othS s h1 h2) : othS s h h2 := fun a j w n => (q a j w n).trans (p a j w n)
theorem othS.set {s a j : Nat} {v : Int32} {h h1 : XH} (p : othS s h h1) (hi : inS s a j) : othS s h (xsI h1 a j v) := fun b i w n => by
  by_cases q : b = a
  · subst q
    rw [xI_sd (fun e => by subst e; exact hi.elim w n)]
    exact p b i w n
  · rw [xI_n q]
    exact p b i w n
def Gs (s : Nat) (S F : List Nat) (h h1 : XH) : Prop := Fx (69 :: S) h h1 ∧ (∀ j, j ∉ F → xI h1 69 j = xI h 69 j) ∧ othS s h h1
section GSS
variable {s : Nat} {S F S' F' : List Nat} {h h1 h2 : XH} {a j n : Nat} {v : Int32}
theorem Gs.gx (p : Gs s S F h h1) : Gx S F h h1 := ⟨p.1, p.2.1⟩
theorem Gx.gs (p : Gx S F h h1) (o : othS s h h1) : Gs s S F h h1 := ⟨p.1, p.2, o⟩
theorem Gs.rf : Gs s S F h h := Gx.rf.gs othS.rf
theorem Gs.tr (p : Gs s S F h h1) (q : Gs s S F h1 h2) : Gs s S F h h2 := (p.gx.tr q.gx).gs (p.2.2.tr q.2.2)
theorem Gs.mono (p : Gs s S F h h1) (hS : ∀ a ∈ S, a ∈ S') (hF : ∀ a ∈ F, a ∈ F') : Gs s S' F' h h1 := (p.gx.mono hS hF).gs p.2.2
theorem Gs.set (p : Gs s S F h h1) (ha : a ∈ S) (h69 : a ≠ 69) (hi : inS s a j := by first | exact Or.inl rfl | exact Or.inr (by simp only [wd, Nat.reduceEqDiff, if_true, if_false, or_true, true_or, or_false, false_or]; omega)) : Gs s S F h (xsI h1 a j v) := (p.gx.set ha h69).gs (p.2.2.set hi)
theorem Gs.fld (p : Gs s S F h h1) (hj : j ∈ F) : Gs s S F h (xsI h1 69 j v) := (p.gx.fld hj).gs (p.2.2.set (Or.inl rfl))
theorem Gs.sh (p : Gs s S F h h1) (hs : Sh h) (h1n : 1 ∉ S) : Sh h1 := p.gx.sh hs h1n
theorem Gs.at (p : Gs s S F h h1) (ha : a ∉ S) (h69 : a ≠ 69) : xI h1 a = xI h a := p.gx.at ha h69
theorem Gs.f (p : Gs s S F h h1) (hj : j ∉ F) : xI h1 69 j = xI h 69 j := p.gx.f hj
end GSS
def okK (k : Nat) : Bool := decide (k ≤ 3) || isS k || (decide (100 ≤ k) && decide (k < 116))
theorem rkd_i : ∀ x, x < 116 → ∀ y, y < 116 → okK x = true → okK y = true → rkd x = rkd y → x = y := by decide +kernel
theorem rkd_lt : ∀ x, x < 116 → rkd x < 40 := by decide +kernel
theorem kS_ok {B : Nat → Nat} {n : Nat} (j : Nat) : okK (kS B n j) = true ∧ kS B n j < 116 := by
  unfold kS
  by_cases q : pS B n j < n
  · rw [if_pos q]
    unfold tK
    by_cases l : isL (B (pS B n j)) = true
    · rw [if_pos l]
      split
      · decide
      · rcases kwF_r (nm := ltS B (pS B n j) (tE B n (pS B n j) - pS B n j)) 16 0 rfl with w | w
        · rw [w]; decide
        · refine ⟨?_, w.2⟩
          unfold okK
          simp [w.1, w.2]
    · rw [if_neg l]
      by_cases d : isD (B (pS B n j)) = true
      · rw [if_pos d]
        split <;> decide
      · rw [if_neg d]
        split
        · rename_i hS
          refine ⟨by unfold okK; simp [hS], ?_⟩
          unfold isS at hS
          simp at hS
          omega
        · decide
  · rw [if_neg q]
    decide
def rcK (c : Cd) : Nat := if c.1 = 0 then 0 else if c.1 = 1 ∨ c.1 = 11 ∨ c.1 = 12 then 1 else c.1
def rcV (c : Cd) : Nat := if c.1 = 0 then c.2 else if c.1 = 1 then 15 else if c.1 = 12 then 14 else 0
/-- places of names among codes -/
def rfA : Nat → List Cd → List (Nat × Nat)
  | _, [] => []
  | i, c :: t => if c.1 = 11 then (i, c.2) :: rfA (i + 1) t else rfA (i + 1) t
theorem rfA_s {c : Cd} : ∀ l i, rfA i (l ++ [c]) = rfA i l ++ (if c.1 = 11 then [(i + l.length, c.2)] else []) := by
  intro l
  induction l with
  | nil =>
    intro i
    show (if c.1 = 11 then (i, c.2) :: [] else []) = [] ++ (if c.1 = 11 then [(i + 0, c.2)] else [])
    rw [List.nil_append]
    rfl
  | cons d t ih =>
    intro i
    show (if d.1 = 11 then (i, d.2) :: rfA (i + 1) (t ++ [c]) else rfA (i + 1) (t ++ [c])) = (if d.1 = 11 then (i, d.2) :: rfA (i + 1) t else rfA (i + 1) t) ++ (if c.1 = 11 then [(i + (t.length + 1), c.2)] else [])
    rw [ih (i + 1), show i + 1 + t.length = i + (t.length + 1) by omega]
    split <;> rfl
theorem rfA_len : ∀ l i, (rfA i l).length ≤ l.length := by
  intro l
  induction l with
  | nil => intro i; exact Nat.le_refl _
  | cons d t ih =>
    intro i
    have := ih (i + 1)
    show (if d.1 = 11 then (i, d.2) :: rfA (i + 1) t else rfA (i + 1) t).length ≤ t.length + 1
    split
    · show (rfA (i + 1) t).length + 1 ≤ _; omega
    · omega
def rfG (l : List (Nat × Nat)) (i : Nat) : Nat × Nat := l.getD i (0, 0)
abbrev FE : List Nat := [11, 12, 13, 14, 15, 16, 39, 51, 55]
abbrev SE : List Nat := [94, 95, 103, 104, 105]
def RBs (s : Nat) (B : Nat → Nat) (n : Nat) (h : XH) : Prop := Sh h ∧ s < 2 ∧ xI h 69 19 = nI s ∧ rTk B n h ∧ n ≤ 2000
theorem RBs.gx {s : Nat} {B : Nat → Nat} {n : Nat} {h h1 : XH} (r : RBs s B n h) (g : Gs s SE FE h h1) : RBs s B n h1 := by
  obtain ⟨r1, r2, r3, r4, r5⟩ := r
  refine ⟨g.sh r1 (by decide), r2, by rw [g.f (by decide)]; exact r3, fun j hj => ?_, r5⟩
  unfold rT1
  rw [g.at (a := 72) (by decide) (by decide), g.at (a := 73) (by decide) (by decide), g.at (a := 74) (by decide) (by decide), g.1.2.1]
  exact r4 j hj
def sfP (B : Nat → Nat) (n a : Nat) (sf : Option (Nat × Nat)) (h : XH) : Prop := match sf with
  | none => xI h 69 15 = nI 0
  | some (x, y) => xI h 69 15 = nI x ∧ xI h 69 16 = nI y ∧ 1 ≤ x ∧ x < 20 ∧ y ≤ 2000 ∧ y < pS B n a
/-- the state as the other side holds it; o are open -/
def RR (s o : Nat) (B : Nat → Nat) (n : Nat) (m : Md) (h : XH) : Prop := RBs s B n h ∧ match m with
  | .error e => 1 ≤ e.1 ∧ e.1 < 20 ∧ e.2 ≤ 2000 ∧ xI h 69 13 = nI e.1 ∧ xI h 69 14 = nI e.2 ∧ (∃ a, a ≤ 400 ∧ xI h 69 11 = nI a) ∧ ∃ c, c ≤ 402 ∧ xI h 69 51 = nI (420 * s + c)
  | .ok (a, sf, _, rs) => xI h 69 13 = nI 0 ∧ xI h 69 11 = nI a ∧ rch B n a ∧ sfP B n a sf h ∧ xI h 69 12 = nI o ∧ rs.length ≤ a ∧ xI h 69 51 = nI (420 * s + rs.length) ∧ (∀ i, i < rs.length → xI h 103 (420 * s + i) = nI (rcK (cdAt rs i)) ∧ xI h 104 (420 * s + i) = nI (rcV (cdAt rs i))) ∧ xI h 69 39 = nI (rfA 0 rs).length ∧ ∀ k, k < (rfA 0 rs).length → xI h 94 k = nI (420 * s + (rfG (rfA 0 rs) k).1) ∧ xI h 95 k = nI (rfG (rfA 0 rs) k).2
section RCO
variable {s o : Nat} {B : Nat → Nat} {n : Nat} {h : XH} {m : Md} {a : Nat} {sf : Option (Nat × Nat)} {cs rs : List Cd} {Q : Value → XH → Prop}
theorem RR.sh (r : RR s o B n m h) : Sh h := r.1.1
theorem RR.k (r : RR s o B n (.ok (a, sf, cs, rs)) h) : xI h 72 a = nI (rkd (kS B n a)) ∧ xI h 73 a = nI (pS B n a) ∧ a ≤ 400 := ⟨(r.1.2.2.2.1 a r.2.2.2.1).1, (r.1.2.2.2.1 a r.2.2.2.1).2.1, r.2.2.2.1.1⟩
theorem RR.ne {e : Nat × Nat} (r : RR s o B n (.error e) h) : ¬ xI h 69 13 = (0 : Int32) ∧ ¬ xI h 69 13 ≤ (0 : Int32) ∧ 0 < xI h 69 13 := by
  have e4 : xI h 69 13 = nI e.1 := r.2.2.2.2.1
  have e1 : 1 ≤ e.1 := r.2.1
  have e2 : e.1 < 20 := r.2.2.1
  rw [e4]
  exact ⟨fun q => by have := (nI_eq (a := e.1) (b := 0) (by omega) (by decide)).mp q; omega, nI_ge (a := 0) (b := e.1) (by omega) (by omega), nI_lt (a := 0) (b := e.1) (by omega) (by omega)⟩
theorem RR.z (r : RR s o B n (.ok (a, sf, cs, rs)) h) : xI h 69 13 = (0 : Int32) := r.2.1
def isM (k : Nat → Nat) (x : Nat) (m : Md) : Nat := match m with
  | .error _ => 0
  | .ok (a, _, _, _) => if k a = x then 1 else 0
theorem c_is {x : Nat} {K : Int32 → XH → Prop} (hx : okK x = true ∧ x < 116) (r : RR s o B n m h) (k : K (nI (isM (kS B n) x m)) h) : ClI 185 [.ref 69, .int (nI (rkd x))] h K := by
  refine B_185_0 r.sh ?_
  match m, r, k with
  | .error e, r, k => exact ⟨fun _ => ⟨_, rfl, k⟩, fun z => absurd r.ne.1 z⟩
  | .ok (a, sf, cs, rs), r, k =>
    have k9 := r.k
    have e11 : xI h 69 11 = nI a := r.2.2.1
    have ko := kS_ok (B := B) (n := n) a
    have l1 := rkd_lt x hx.2
    have l2 := rkd_lt (kS B n a) ko.2
    rw [r.z, e11, tn_nI (show a < 2 ^ 31 by omega), k9.1]
    have ki : isM (kS B n) x (.ok (a, sf, cs, rs)) = if kS B n a = x then 1 else 0 := rfl
    rw [ki] at k
    refine ⟨fun z => absurd rfl z, fun _ => ⟨inb (by omega) (by decide), fun z => ?_, fun z => ?_⟩⟩
    · rw [if_neg (fun q => z (by rw [q]))] at k
      exact ⟨_, rfl, k⟩
    · have q := (nI_eq (by omega) (by omega)).mp (Classical.not_not.mp z)
      rw [if_pos (rkd_i _ ko.2 _ hx.2 ko.1 hx.1 q)] at k
      exact ⟨_, rfl, k⟩
def flS (p : Nat → Nat) (x : Nat) (m : Md) : Md := match m with
  | .error e => .error e
  | .ok (a, _, _, _) => .error (x, p a)
theorem c_fail {x : Nat} {K : XH → Prop} (hx : 1 ≤ x ∧ x < 20) (r : RR s o B n m h) (hb : ∀ c, m = .ok c → c.2.2.2.length ≤ 402) (k : ∀ h1, Gs s SE FE h h1 → RR s o B n (flS (pS B n) x m) h1 → xI h1 69 55 = xI h 69 55 → xI h1 105 = xI h 105 → K h1) : ClV 187 [.ref 69, .int (nI x)] h K := by
  refine B_187_0 r.sh ?_
  match m, r, k, hb with
  | .error e, r, k, hb => exact ⟨fun z => absurd z r.ne.2.1, fun _ => ⟨rfl, k h Gs.rf r rfl rfl⟩⟩
  | .ok (a, sf, cs, rs), r, k, hb =>
    have k9 := r.k
    have e11 : xI h 69 11 = nI a := r.2.2.1
    have i11 : xI (xsI h 69 13 (nI x)) 69 11 = nI a := by rw [xI_sd (by decide)]; exact e11
    have i73 : xI (xsI h 69 13 (nI x)) 73 a = nI (pS B n a) := by rw [xI_n (by decide)]; exact k9.2.1
    rw [r.z, i11, tn_nI (show a < 2 ^ 31 by omega), i73]
    refine ⟨fun _ => ⟨inb (by omega) (by decide), rfl, ?_⟩, fun z => absurd (by decide) z⟩
    have g : Gs s SE FE h (xsI (xsI h 69 13 (nI x)) 69 14 (nI (pS B n a))) := (Gs.rf.fld (by decide)).fld (by decide)
    have e51 : xI h 69 51 = nI (420 * s + rs.length) := r.2.2.2.2.2.2.2.1
    refine k _ g ⟨r.1.gx g, hx.1, hx.2, pS_2000 r.1.2.2.2.2 a, by rw [xI_sd (by decide)]; exact xI_ss, xI_ss, ⟨a, k9.2.2, by rw [xI_sd (by decide)]; exact i11⟩, ⟨rs.length, hb _ rfl, by rw [xI_sd (by decide), xI_sd (by decide)]; exact e51⟩⟩ (by rw [xI_sd (by decide), xI_sd (by decide)]) (by rw [xI_n (by decide), xI_n (by decide)])
def gnS (p : Nat → Nat) (m : Md) : Md := match m with
  | .error e => .error e
  | .ok (a, sf, cs, rs) => if a < 400 then .ok (a + 1, sf, cs, rs) else .error (2, p a)
theorem sfP.up {h1 : XH} (hk : kS B n a ≠ 0) (hx : sfP B n a sf h) (e15 : xI h1 69 15 = xI h 69 15) (e16 : xI h1 69 16 = xI h 69 16) : sfP B n (a + 1) sf h1 := by
  have lt : pS B n a < pS B n (a + 1) := pS_lt (by
    apply Classical.byContradiction
    intro q
    apply hk
    unfold kS
    rw [if_neg q])
  match sf, hx with
  | none, hx => exact e15.trans hx
  | some (x, y), hx =>
    obtain ⟨h1', h2, h3, h4, h5, h6⟩ := hx
    exact ⟨e15.trans h1', e16.trans h2, h3, h4, h5, by omega⟩
theorem c_goesOn {K : XH → Prop} (r : RR s o B n m h) (hk : ∀ a sf cs rs, m = .ok (a, sf, cs, rs) → 2 ≤ kS B n a ∧ rs.length ≤ a + 1) (k : ∀ h1, Gs s SE FE h h1 → RR s o B n (gnS (pS B n) m) h1 → xI h1 69 55 = xI h 69 55 → xI h1 105 = xI h 105 → K h1) : ClV 190 [.ref 69] h K := by
  refine B_190_0 r.sh ?_
  match m, r, k, hk with
  | .error e, r, k, hk =>
    obtain ⟨e1, e2, e3, e4, e5, ⟨b, e6, e7⟩, c, e8, e9⟩ := r.2
    rw [e7, nI_1]
    refine ⟨fun z => ⟨rfl, ?_⟩, fun z => c_fail (x := 2) (by decide) r (fun c hc => by cases hc) (fun h1 g r1 x1 x2 => ⟨r1.sh, rfl, k h1 g r1 x1 x2⟩)⟩
    have b4 : b ≠ 400 := fun q => z (by rw [q]; rfl)
    have g : Gs s SE FE h (xsI h 69 11 (nI (b + 1))) := Gs.rf.fld (by decide)
    exact k _ g ⟨r.1.gx g, e1, e2, e3, by rw [xI_sd (by decide)]; exact e4, by rw [xI_sd (by decide)]; exact e5, ⟨b + 1, by omega, xI_ss⟩, ⟨c, e8, by rw [xI_sd (by decide)]; exact e9⟩⟩ (xI_sd (by decide)) (xI_n (by decide))
  | .ok (a, sf, cs, rs), r, k, hk =>
    have k9 := r.k
    obtain ⟨q1, q2, q3, q4, q5, q6, q7, q8, q9, q10⟩ := r.2
    have hk' := hk a sf cs rs rfl
    rw [q2, nI_1]
    have eg : gnS (pS B n) (.ok (a, sf, cs, rs)) = if a < 400 then .ok (a + 1, sf, cs, rs) else .error (2, pS B n a) := rfl
    refine ⟨fun z => ⟨rfl, ?_⟩, fun z => ?_⟩
    · have a4 : a < 400 := by
        have : a ≠ 400 := fun q => z (by rw [q]; rfl)
        omega
      have g : Gs s SE FE h (xsI h 69 11 (nI (a + 1))) := Gs.rf.fld (by decide)
      refine k _ g ?_ (xI_sd (by decide)) (xI_n (by decide))
      rw [eg, if_pos a4]
      refine ⟨r.1.gx g, by rw [xI_sd (by decide)]; exact q1, xI_ss, ⟨by omega, fun i hi => ?_⟩, q4.up (by omega) (xI_sd (by decide)) (xI_sd (by decide)), by rw [xI_sd (by decide)]; exact q5, by omega, by rw [xI_sd (by decide)]; exact q7, fun i hi => by rw [xI_n (by decide), xI_n (by decide)]; exact q8 i hi, by rw [xI_sd (by decide)]; exact q9, fun i hi => by rw [xI_n (by decide), xI_n (by decide)]; exact q10 i hi⟩
      by_cases e : i = a
      · rw [e]; omega
      · exact q3.2 i (by omega)
    · have a4 : a = 400 := (nI_eq (b := 400) (by omega) (by decide)).mp (Classical.not_not.mp z)
      refine c_fail (x := 2) (by decide) r (fun c hc => by cases hc; show rs.length ≤ 402; omega) (fun h1 g r1 x1 x2 => ⟨r1.sh, rfl, k h1 g ?_ x1 x2⟩)
      rw [eg, if_neg (by omega)]
      exact r1
theorem c_must {x : Nat} {K : XH → Prop} (hx : okK x = true ∧ x < 116) (hx2 : 2 ≤ x) (r : RR s o B n m h) (k : ∀ h1, Gs s SE FE h h1 → RR s o B n (tkS (kS B n) (pS B n) x m) h1 → K h1) : ClV 191 [.ref 69, .int (nI (rkd x))] h K := by
  refine B_191_0 r.sh (c_is hx r ⟨r.sh, ?_⟩)
  match m, r, k with
  | .error e, r, k =>
    exact ⟨fun _ => c_fail (x := 1) (by decide) r (fun c hc => by cases hc) (fun h1 g r1 _ _ => ⟨r1.sh, rfl, k h1 g r1⟩), fun z => absurd rfl z⟩
  | .ok (a, sf, cs, rs), r, k =>
    have k9 := r.k
    have rl : rs.length ≤ a := r.2.2.2.2.2.2.1
    have ki : isM (kS B n) x (.ok (a, sf, cs, rs)) = if kS B n a = x then 1 else 0 := rfl
    rw [ki]
    have et : tkS (kS B n) (pS B n) x (.ok (a, sf, cs, rs)) = if kS B n a = x then gnS (pS B n) (.ok (a, sf, cs, rs)) else .error (1, pS B n a) := rfl
    by_cases q : kS B n a = x
    · rw [if_pos q] at et ⊢
      refine ⟨fun z => absurd z (by decide), fun _ => c_goesOn r (fun a' sf' cs' rs' e => by cases e; omega) (fun h1 g r1 _ _ => ⟨r1.sh, rfl, k h1 g (by rw [et]; exact r1)⟩)⟩
    · rw [if_neg q] at et ⊢
      refine ⟨fun _ => c_fail (x := 1) (by decide) r (fun c hc => by cases hc; show rs.length ≤ 402; omega) (fun h1 g r1 _ _ => ⟨r1.sh, rfl, k h1 g (by rw [et]; exact r1)⟩), fun z => absurd rfl z⟩
end RCO

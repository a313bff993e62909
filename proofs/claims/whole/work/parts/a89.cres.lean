/-! READING, the one side: names are found -/
def rzF (B : Nat → Nat) (n : Nat) (F : List Fa) (G : List Pg) (j : Nat) : Nat := match fiF (nS B n j) F F.length 0 with
  | some f => f
  | none => match fiG (nS B n j) G G.length 0 with
    | some p => 8 + p
    | none => 0
def unkN (B : Nat → Nat) (n : Nat) (F : List Fa) (G : List Pg) : List Nat → Option Nat
  | [] => none
  | j :: t => if told (nS B n j) F G = true then unkN B n F G t else some j
def RZ (it : Nat) (B : Nat → Nat) (n : Nat) (F : List Fa) (G : List Pg) (cs : List Cd) (z : Nat) (h : XH) : Prop := CB it B n h ∧ xI h 6 1 = nI 0 ∧ xI h 6 0 = -1 ∧ xI h it 7 = nI cs.length ∧ fR it F h ∧ gR it G h ∧ (∀ i, i < z → xI h (it + 9) i = nI (wz (rzF B n F G) (cdAt cs i))) ∧ ∀ i, z ≤ i → i < cs.length → xI h (it + 9) i = nI (cw (cdAt cs i))
section CRS
variable {it : Nat} {B : Nat → Nat} {n : Nat} {h h0 : XH} {Q : Value → XH → Prop} {F : List Fa} {G : List Pg} {cs : List Cd}
theorem rzF_lt (hF : F.length ≤ 8) (hG : G.length ≤ 6) (j : Nat) : rzF B n F G j < 14 := by
  unfold rzF
  cases e : fiF (nS B n j) F F.length 0 with
  | some f => have := fiF_lt _ _ _ e; dsimp only; omega
  | none =>
    dsimp only
    cases e2 : fiG (nS B n j) G G.length 0 with
    | some f => have := fiG_lt _ _ _ e2; dsimp only; omega
    | none => dsimp only; omega
/-- what is asked of each code -/
def cwK (B : Nat → Nat) (n : Nat) (x : Cd) : Prop := cw x < 2 ^ 20 ∧ (x.1 = 11 → kS B n x.2 = 2 ∧ rch B n x.2) ∧ (x.1 ≠ 11 → cw x % 16 ≠ 11)
theorem RZ.nx {x : Cd} {u : Nat} (hx : cdAt cs u = x) (r : RZ it B n F G cs u h) (h11 : x.1 ≠ 11) (hu : u < cs.length) : RZ it B n F G cs (u + 1) h := by
  obtain ⟨z1, z2, z3, z4, z5, z6, z7, z8⟩ := r
  refine ⟨z1, z2, z3, z4, z5, z6, fun i hi => ?_, fun i hi => z8 i (by omega)⟩
  by_cases q : i = u
  · rw [q, z8 u (Nat.le_refl _) hu, hx]
    unfold wz
    rw [if_neg h11]
  · exact z7 i (by omega)
theorem RZ.st {x : Cd} {u : Nat} (hx : cdAt cs u = x) (r : RZ it B n F G cs u h) (h11 : x.1 = 11) : RZ it B n F G cs (u + 1) (xsI h (it + 9) u (nI (16 * rzF B n F G x.2 + 1))) := by
  obtain ⟨z1, z2, z3, z4, z5, z6, z7, z8⟩ := r
  have hit := z1.2.1
  have f : EX it h (xsI h (it + 9) u (nI (16 * rzF B n F G x.2 + 1))) := EX.rf.f9 hit
  refine ⟨z1.ex f, by rw [xI_n (by omega)]; exact z2, by rw [xI_n (by omega)]; exact z3, by rw [xI_n (by omega)]; exact z4, z5.ew hit f.w, z6.ew hit f.w, fun i hi => ?_, fun i hi hl => ?_⟩
  · by_cases q : i = u
    · rw [q, xI_ss, hx]
      unfold wz
      rw [if_pos h11]
    · rw [xI_sd q]; exact z7 i (by omega)
  · rw [xI_sd (by omega)]; exact z8 i (by omega) hl
theorem l_res {M : Option Nat} (hl : cs.length ≤ 512) (hc : ∀ x ∈ cs, cwK B n x) (k1 : ∀ h1, EX it h0 h1 → M = none → RZ it B n F G cs cs.length h1 → Q .null h1) (k0 : ∀ h1 j, EX it h0 h1 → M = some j → rch B n j → CB it B n h1 → xI h1 6 1 = nI 8 → xI h1 6 0 = nI (pS B n j) → xI h1 it 7 = nI cs.length → Q .null h1) :
    ∀ (w u : List Cd) (h : XH), cs = u ++ w → M = unkN B n F G (tks w) → EX it h0 h → RZ it B n F G cs u.length h → Ev 46 2 [.ref 6, .int (nI u.length), .null, .null, .null] [] h Q := by
  intro w
  induction w with
  | nil =>
    intro u h e eM f z
    rw [List.append_nil] at e
    have z' := z
    obtain ⟨c, z1, z0, z7, zf, zg, zw, zc⟩ := z
    refine B_46_2 c.1 c.2.1 c.2.2.1 ?_
    rw [z7, ← e]
    exact ⟨fun _ => B_46_129 c.1 c.2.1 c.2.2.1 (k1 h f eM (by rw [← e] at z'; exact z')), fun q => absurd (nI_le (Nat.le_refl _) (by omega)) q⟩
  | cons x w ih =>
    intro u h e eM f z
    have z' := z
    obtain ⟨c, z1, z0, z7, zf, zg, zw, zc⟩ := z
    have hit := c.2.1
    have hu : u.length < cs.length := by rw [e, List.length_append]; show u.length < u.length + (w.length + 1); omega
    have hx : cdAt cs u.length = x := by
      unfold cdAt
      rw [e, List.getD_eq_getElem?_getD, List.getElem?_append_right (Nat.le_refl _), Nat.sub_self]
      rfl
    have hm : x ∈ cs := by rw [e]; exact List.mem_append_right _ List.mem_cons_self
    obtain ⟨w20, w11, wn⟩ := hc x hm
    have e' : cs = (u ++ [x]) ++ w := by rw [e, List.append_assoc]; rfl
    have lu : (u ++ [x]).length = u.length + 1 := ap1
    have cell := zc u.length (Nat.le_refl _) hu
    rw [hx] at cell
    have nx : ∀ h1, EX it h0 h1 → RZ it B n F G cs (u.length + 1) h1 → M = unkN B n F G (tks w) → Ev 46 123 [.ref 6, .int (nI u.length), .null, .null, .null] [] h1 Q := by
      intro h1 f1 r1 eM1
      refine B_46_123 r1.1.1 r1.1.2.1 r1.1.2.2.1 ?_
      rw [nI_1]
      have := ih (u ++ [x]) h1 e' eM1 f1
      rw [lu] at this
      exact this r1
    refine B_46_2 c.1 c.2.1 c.2.2.1 ?_
    rw [z7, z1, tn_nI (show u.length < 2 ^ 31 by omega), cell, wd_and w20, wd_shr w20]
    have i5 : InB (nI u.length) 512 := inb (by omega) (by decide)
    refine ⟨fun q => absurd q (nI_ge (by omega) (by omega)), fun _ => ⟨fun q => absurd rfl q, fun _ => ⟨i5, fun q => ?_, fun q => ?_⟩⟩⟩
    · have n11 : x.1 ≠ 11 := by
        intro y
        apply q
        have : cw x % 16 = 11 := by unfold cw; rw [if_neg (by omega), y]; omega
        rw [this]
        rfl
      have et : tks (x :: w) = tks w := by show (if x.1 = 11 then _ else _) = _; rw [if_neg n11]
      rw [et] at eM
      exact nx h f (z'.nx hx n11 hu) eM
    · have y11 : cw x % 16 = 11 := (nI_eq (b := 11) (by omega) (by decide)).mp (Classical.not_not.mp q)
      have h11 : x.1 = 11 := by
        apply Classical.byContradiction
        intro y
        exact wn y y11
      obtain ⟨k2, rj⟩ := w11 h11
      have ed : cw x / 16 = x.2 := by
        have : cw x = 16 * x.2 + x.1 := by unfold cw; rw [if_neg (by omega)]
        omega
      have j4 : x.2 ≤ 400 := rj.1
      have vl := (c.2.2.2.1 x.2 rj).2.2.1 k2
      have p9 := (c.2.2.2.1 x.2 rj).2.1
      have hn := nS_ok k2
      have lF := zf.1
      have lG := zg.1
      have et : tks (x :: w) = x.2 :: tks w := by show (if x.1 = 11 then _ else _) = _; rw [if_pos h11]
      rw [et] at eM
      have eM : M = if told (nS B n x.2) F G = true then unkN B n F G (tks w) else some x.2 := eM
      rw [ed, tn_nI (show x.2 < 2 ^ 31 by omega), vl]
      have i4 : InB (nI x.2) 402 := inb (by omega) (by decide)
      refine ⟨i5, i4, B_29_0 c.1 c.2.1 c.2.2.1 (l_fiF c zf hn F.length 0 (by omega) ⟨_, rfl, c.1, c.2.2.1, i4, ?_⟩)⟩
      rw [vl]
      refine B_30_0 c.1 c.2.1 c.2.2.1 (l_fiG c zg hn G.length 0 (by omega) ⟨_, rfl, c.1, c.2.2.1, ?_⟩)
      cases ef : fiF (nS B n x.2) F F.length 0 with
      | some g =>
        have gl := fiF_lt _ _ _ ef
        have et : told (nS B n x.2) F G = true := by unfold told; rw [ef]; rfl
        rw [if_pos et] at eM
        have er : rzF B n F G x.2 = g := by unfold rzF; rw [ef]
        refine ⟨fun _ => B_46_97 c.1 c.2.1 c.2.2.1 ⟨fun y => absurd y (nI_pos (by omega)), fun _ => ⟨i5, ?_⟩⟩, fun y => absurd (nI_le (a := 0) (b := g) (by omega) (by omega)) y⟩
        have ew : ((oIx (some g)) <<< ((4 : Int32) &&& 31)) ||| 1 = nI (16 * rzF B n F G x.2 + 1) := by rw [er]; exact or4 (show g < 10000 by omega) (show 1 < 16 by decide)
        rw [ew, tn_nI (show u.length < 2 ^ 31 by omega)]
        exact nx _ (f.f9 hit) (z'.st hx h11) eM
      | none =>
        refine ⟨fun y => absurd y (by decide), fun _ => ?_⟩
        cases eg : fiG (nS B n x.2) G G.length 0 with
        | some g =>
          have gl := fiG_lt _ _ _ eg
          have et : told (nS B n x.2) F G = true := by unfold told; rw [ef, eg]; rfl
          rw [if_pos et] at eM
          have er : rzF B n F G x.2 = 8 + g := by unfold rzF; rw [ef, eg]
          refine ⟨fun _ => B_46_97 c.1 c.2.1 c.2.2.1 ⟨fun _ => ⟨i5, ?_⟩, fun y => absurd (by decide : oIx none < 0) y⟩, fun y => absurd (nI_le (a := 0) (b := g) (by omega) (by omega)) y⟩
          have ew : ((8 + oIx (some g)) <<< ((4 : Int32) &&& 31)) ||| 1 = nI (16 * rzF B n F G x.2 + 1) := by
            rw [er]
            have e8 : (8 : Int32) + oIx (some g) = nI (8 + g) := nI_add 8 g
            rw [e8]
            exact or4 (show 8 + g < 10000 by omega) (show 1 < 16 by decide)
          rw [ew, tn_nI (show u.length < 2 ^ 31 by omega)]
          exact nx _ (f.f9 hit) (z'.st hx h11) eM
        | none =>
          have et : ¬ told (nS B n x.2) F G = true := by unfold told; rw [ef, eg]; decide
          rw [if_neg et] at eM
          refine ⟨fun y => absurd y (by decide), fun _ => ⟨i4, ?_⟩⟩
          have e9 : xI (xsI h 6 1 8) 9 x.2 = nI (pS B n x.2) := by rw [xI_n (by decide)]; exact p9
          rw [e9]
          have f1 : EX it h (xsI (xsI h 6 1 8) 6 0 (nI (pS B n x.2))) := (EX.rf.f6 hit (by decide)).f6 hit (by decide)
          have c1 := c.ex f1
          refine B_46_97 c1.1 hit c1.2.2.1 ⟨fun _ => ⟨i5, ?_⟩, fun y => absurd (by decide : oIx none < 0) y⟩
          generalize ((8 + oIx none) <<< ((4 : Int32) &&& 31)) ||| 1 = W
          have f2 : EX it h (xsI (xsI (xsI h 6 1 8) 6 0 (nI (pS B n x.2))) (it + 9) (tn (nI u.length)) W) := f1.f9 hit
          have c2 := c.ex f2
          have v1 : xI (xsI (xsI (xsI h 6 1 8) 6 0 (nI (pS B n x.2))) (it + 9) (tn (nI u.length)) W) 6 1 = nI 8 := by rw [xI_n (by omega), xI_sd (by decide)]; exact xI_ss
          have v0 : xI (xsI (xsI (xsI h 6 1 8) 6 0 (nI (pS B n x.2))) (it + 9) (tn (nI u.length)) W) 6 0 = nI (pS B n x.2) := by rw [xI_n (by omega)]; exact xI_ss
          have v7 : xI (xsI (xsI (xsI h 6 1 8) 6 0 (nI (pS B n x.2))) (it + 9) (tn (nI u.length)) W) it 7 = nI cs.length := by rw [xI_n (by omega), xI_n (by omega), xI_n (by omega)]; exact z7
          generalize xsI (xsI (xsI h 6 1 8) 6 0 (nI (pS B n x.2))) (it + 9) (tn (nI u.length)) W = h2 at f2 c2 v1 v0 v7 ⊢
          have en : Q .null h2 := k0 h2 x.2 (f.tr f2) eM rj c2 v1 v0 v7
          refine B_46_123 c2.1 hit c2.2.2.1 (B_46_2 c2.1 hit c2.2.2.1 ?_)
          rw [v1]
          exact ⟨fun _ => B_46_129 c2.1 hit c2.2.2.1 en, fun _ => ⟨fun _ => B_46_129 c2.1 hit c2.2.2.1 en, fun y => absurd (by decide : ¬ nI 8 = (0 : Int32)) y⟩⟩
end CRS

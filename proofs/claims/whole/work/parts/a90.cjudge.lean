/-! READING, the one side: which claims are loose, whether the day is looked at, how it was judged -/
def lkL (rz : Nat → Nat) : List Cd → Bool
  | [] => false
  | c :: t => if wz rz c = 10 then false else if wz rz c % 16 = 1 ∧ 8 ≤ wz rz c / 16 ∧ wz rz c / 16 < 14 then true else lkL rz t
def dyL (rz : Nat → Nat) : List Cd → Bool
  | [] => false
  | c :: t => if wz rz c = 225 then true else dyL rz t
/-- codes with their names found -/
def WZ (it : Nat) (rz : Nat → Nat) (cs : List Cd) (h : XH) : Prop := Sh h ∧ (it = 14 ∨ it = 24) ∧ xR h 6 8 = it ∧ cs.length ≤ 512 ∧ xI h it 7 = nI cs.length ∧ ∀ i, i < cs.length → xI h (it + 9) i = nI (wz rz (cdAt cs i)) ∧ wz rz (cdAt cs i) < 2 ^ 20
section CJD
variable {it : Nat} {B : Nat → Nat} {n : Nat} {h h0 : XH} {Q : Value → XH → Prop} {F : List Fa} {G : List Pg} {cs : List Cd} {rz : Nat → Nat}
theorem cdAt_m {u w : List Cd} {x : Cd} : cdAt (u ++ x :: w) u.length = x := by
  unfold cdAt
  rw [List.getD_eq_getElem?_getD, List.getElem?_append_right (Nat.le_refl _), Nat.sub_self]
  rfl
theorem l_look (z : WZ it rz cs h) : ∀ (w u : List Cd), cs = u ++ w → Q (.int (nI (if lkL rz w = true then 1 else 0))) h → Ev 48 2 [.ref 6, .null, .int (nI u.length), .null] [] h Q := by
  obtain ⟨z1, z2, z3, z4, z5, z6⟩ := z
  intro w
  induction w with
  | nil =>
    intro u e kk
    rw [List.append_nil] at e
    refine B_48_2 z1 z2 z3 ?_
    rw [z5, ← e]
    exact ⟨fun q => absurd q (nI_pos (by omega)), fun _ => ⟨fun _ => kk, fun q => absurd (nI_le (Nat.le_refl _) (by omega)) q⟩⟩
  | cons x w ih =>
    intro u e kk
    have hu : u.length < cs.length := by rw [e, List.length_append]; show u.length < u.length + (w.length + 1); omega
    have hc := z6 u.length hu
    rw [show cdAt cs u.length = x by rw [e]; exact cdAt_m] at hc
    obtain ⟨c1, c2⟩ := hc
    have i5 : InB (nI u.length) 512 := inb (by omega) (by decide)
    have nx : Q (.int (nI (if lkL rz w = true then 1 else 0))) h → Ev 48 2 [.ref 6, .null, .int (nI u.length + 1), .null] [] h Q := by
      intro k1
      rw [nI_1]
      have := ih (u ++ [x]) (by rw [e, List.append_assoc]; rfl) k1
      rw [ap1] at this
      exact this
    have el : lkL rz (x :: w) = if wz rz x = 10 then false else if wz rz x % 16 = 1 ∧ 8 ≤ wz rz x / 16 ∧ wz rz x / 16 < 14 then true else lkL rz w := rfl
    refine B_48_2 z1 z2 z3 ?_
    rw [z5, tn_nI (show u.length < 2 ^ 31 by omega), c1, wd_and c2, wd_shr c2]
    refine ⟨fun q => absurd q (nI_pos (by omega)), fun _ => ⟨fun q => absurd q (nI_ge (by omega) (by omega)), fun _ => ⟨i5, fun q => ?_, fun q => ⟨i5, i5, fun y => ?_, fun y => ⟨fun t => ?_, fun t => ⟨fun s => ?_, fun s => ?_⟩⟩⟩⟩⟩⟩
    · have q : wz rz x = 10 := (nI_eq (b := 10) (by omega) (by decide)).mp q
      rw [if_pos q] at el
      rw [el] at kk
      exact kk
    all_goals have q : ¬ wz rz x = 10 := fun z => q (by rw [z]; rfl)
    all_goals rw [if_neg q] at el
    · rw [if_neg (fun z => y (by rw [z.1]; rfl))] at el
      rw [el] at kk
      exact nx kk
    · rw [if_neg (fun z => absurd t (nI_nlt (b := 8) z.2.1 (by omega)))] at el
      rw [el] at kk
      exact nx kk
    · rw [if_neg (fun z => absurd s (nI_ge (b := 14) (a := wz rz x / 16) (by omega) (by decide)))] at el
      rw [el] at kk
      exact nx kk
    · have y1 : wz rz x % 16 = 1 := (nI_eq (b := 1) (by omega) (by decide)).mp (Classical.not_not.mp y)
      have t1 : 8 ≤ wz rz x / 16 := by
        rcases Nat.lt_or_ge (wz rz x / 16) 8 with c | c
        · exact absurd (nI_lt (b := 8) c (by decide)) t
        · exact c
      have s1 : wz rz x / 16 < 14 := by
        rcases Nat.lt_or_ge (wz rz x / 16) 14 with c | c
        · exact c
        · exact absurd (nI_le (a := 14) c (by omega)) s
      rw [if_pos ⟨y1, t1, s1⟩] at el
      rw [el] at kk
      exact kk
theorem l_dy (z : WZ it rz cs h) : ∀ (w u : List Cd), cs = u ++ w → Q (.int (nI (if dyL rz w = true then 1 else 0))) h → Ev 49 2 [.ref 6, .int (nI u.length)] [] h Q := by
  obtain ⟨z1, z2, z3, z4, z5, z6⟩ := z
  intro w
  induction w with
  | nil =>
    intro u e kk
    rw [List.append_nil] at e
    refine B_49_2 z1 z2 z3 ?_
    rw [z5, ← e]
    exact ⟨fun _ => kk, fun q => absurd (nI_le (Nat.le_refl _) (by omega)) q⟩
  | cons x w ih =>
    intro u e kk
    have hu : u.length < cs.length := by rw [e, List.length_append]; show u.length < u.length + (w.length + 1); omega
    have hc := z6 u.length hu
    rw [show cdAt cs u.length = x by rw [e]; exact cdAt_m] at hc
    obtain ⟨c1, c2⟩ := hc
    have el : dyL rz (x :: w) = if wz rz x = 225 then true else dyL rz w := rfl
    refine B_49_2 z1 z2 z3 ?_
    rw [z5, tn_nI (show u.length < 2 ^ 31 by omega), c1]
    refine ⟨fun q => absurd q (nI_ge (by omega) (by omega)), fun _ => ⟨inb (by omega) (by decide), fun q => ?_, fun q => ?_⟩⟩
    · rw [if_neg (fun z => q (by rw [z]; rfl))] at el
      rw [el] at kk
      rw [nI_1]
      have := ih (u ++ [x]) (by rw [e, List.append_assoc]; rfl) kk
      rw [ap1] at this
      exact this
    · rw [if_pos ((nI_eq (b := 225) (by omega) (by decide)).mp (Classical.not_not.mp q))] at el
      rw [el] at kk
      exact kk
/-- the loose claims of a page -/
def lsBt (rz : Nat → Nat) (cs : List Cd) (cl : List Cm) (c : Nat) : Int32 := bor (fun c => if lkL rz (cs.drop (cmA cl c).1) = true then bt c else 0) c
theorem WZ.fr {h1 : XH} (z : WZ it rz cs h) (f : Lx [it + 7] [] h h1) : WZ it rz cs h1 := by
  obtain ⟨z1, z2, z3, z4, z5, z6⟩ := z
  exact ⟨f.sh z1 (by simp), z2, by rw [f.1]; exact z3, z4, by rw [f.at (by simp)]; exact z5, fun i hi => by rw [f.at (by simp)]; exact z6 i hi⟩
theorem gR.fr7 {h1 : XH} (hit : it = 14 ∨ it = 24) (g : gR it G h) (f : Lx [it + 7] [] h h1) : gR it G h1 := by
  have c5 : xI h1 (it + 5) = xI h (it + 5) := f.at (by simp)
  have c6 : xI h1 (it + 6) = xI h (it + 6) := f.at (by simp)
  have c8 : xI h1 (it + 8) = xI h (it + 8) := f.at (by simp)
  have c0 : xI h1 it = xI h it := f.at (by simp)
  have c13 : xL h1 13 = xL h 13 := f.al (by simp)
  unfold gR
  rw [c5, c6, c8, c13, c0]
  exact g
theorem l_loose (z0 : WZ it rz cs h0) (g0 : gR it G h0) (hst : ∀ p, p < G.length → ∀ c, c < (pgA G p).2.2.length → (cmA (pgA G p).2.2 c).1 ≤ cs.length) (kk : ∀ h1, Lx [it + 7] [] h0 h1 → (∀ q, q < 6 → xI h1 (it + 7) q = if q < G.length then lsBt rz cs (pgA G q).2.2 (pgA G q).2.2.length else 0) → Q .null h1) :
    ∀ (j p : Nat) (h : XH), p + j = G.length → Lx [it + 7] [] h0 h → (∀ q, q < 6 → xI h (it + 7) q = if q < p then lsBt rz cs (pgA G q).2.2 (pgA G q).2.2.length else 0) → Ev 47 2 [.ref 6, .int (nI p), .null] [] h Q := by
  have g6 : G.length ≤ 6 := g0.1
  have hit := z0.2.1
  intro j
  induction j with
  | zero =>
    intro p h hp f hq
    have z := z0.fr f
    have g := g0.fr7 hit f
    refine B_47_2 z.1 z.2.1 z.2.2.1 ?_
    rw [g.2.1]
    refine ⟨fun _ => kk h f ?_, fun q => absurd (nI_le (by omega) (by omega)) q⟩
    rw [show G.length = p by omega]
    exact hq
  | succ j ih =>
    intro p h hp f hq
    have z := z0.fr f
    have g := g0.fr7 hit f
    refine B_47_2 z.1 z.2.1 z.2.2.1 ?_
    rw [g.2.1]
    refine ⟨fun q => absurd q (nI_ge (by omega) (by omega)), fun _ => ?_⟩
    have inner : ∀ (i c : Nat) (h : XH), c + i = (pgA G p).2.2.length → Lx [it + 7] [] h0 h → (∀ q, q < 6 → xI h (it + 7) q = if q < p then lsBt rz cs (pgA G q).2.2 (pgA G q).2.2.length else if q = p then lsBt rz cs (pgA G p).2.2 c else 0) → Ev 47 15 [.ref 6, .int (nI p), .int (nI c)] [] h Q := by
      intro i
      induction i with
      | zero =>
        intro c h hc f hq
        have z := z0.fr f
        have g := g0.fr7 hit f
        obtain ⟨g1, g2, g3, g4, g5, g6', g7, g8⟩ := g.2.2.2 p (by omega)
        refine B_47_15 z.1 z.2.1 z.2.2.1 ?_
        rw [tn_nI (show p < 2 ^ 31 by omega), g3]
        refine ⟨inb (by omega) (by decide), fun _ => ?_, fun q => absurd (nI_le (by omega) (by omega)) q⟩
        rw [nI_1]
        refine ih (p + 1) h (by omega) f (fun q h6 => ?_)
        rw [hq q h6]
        by_cases q1 : q < p
        · rw [if_pos q1, if_pos (by omega)]
        · rw [if_neg q1]
          by_cases q2 : q = p
          · rw [if_pos q2, if_pos (by omega), q2, show c = (pgA G p).2.2.length by omega]
          · rw [if_neg q2, if_neg (by omega)]
      | succ i ih2 =>
        intro c h hc f hq
        have z := z0.fr f
        have g := g0.fr7 hit f
        obtain ⟨g1, g2, g3, g4, g5, g6', g7, g8⟩ := g.2.2.2 p (by omega)
        obtain ⟨g8, g9⟩ := g8 c (by omega)
        have hs := hst p (by omega) c (by omega)
        refine B_47_15 z.1 z.2.1 z.2.2.1 ?_
        have e6 : nI p * 6 + nI c = nI (p * 6 + c) := by
          rw [show nI p * 6 = nI (p * 6) from pk_mul p 6, nI_add]
        rw [tn_nI (show p < 2 ^ 31 by omega), g3, e6, tn_nI (show p * 6 + c < 2 ^ 31 by omega), g8]
        refine ⟨inb (by omega) (by decide), fun q => absurd q (nI_ge (by omega) (by omega)), fun _ => ⟨inb (by omega) (by decide), B_48_0 z.1 z.2.1 z.2.2.1 ?_⟩⟩
        have el : (cs.take (cmA (pgA G p).2.2 c).1).length = (cmA (pgA G p).2.2 c).1 := by rw [List.length_take]; omega
        have := l_look (Q := fun v h1 => ∃ v2, v = .int v2 ∧ Sh h1 ∧ xR h1 6 8 = it ∧ (((v2 = 0) → Ev 47 15 [.ref 6, .int (nI p), .int (nI c + 1)] [] h1 Q) ∧ (¬ (v2 = 0) → InB (nI p) 6 ∧ (InB (nI p) 6 ∧ (Ev 47 15 [.ref 6, .int (nI p), .int (nI c + 1)] [] (xsI h1 (it + 7) p ((xI h1 (it + 7) p) ||| (1 <<< (nI c &&& 31)))) Q))))) z (cs.drop (cmA (pgA G p).2.2 c).1) (cs.take (cmA (pgA G p).2.2 c).1) (List.take_append_drop _ _).symm
        rw [el] at this
        refine this ⟨_, rfl, z.1, z.2.2.1, fun y => ?_, fun y => ?_⟩
        · have hn : ¬ lkL rz (cs.drop (cmA (pgA G p).2.2 c).1) = true := fun t => by rw [if_pos t] at y; exact absurd y (by decide)
          rw [nI_1]
          refine ih2 (c + 1) h (by omega) f (fun q h6 => ?_)
          rw [hq q h6]
          have ebb : lsBt rz cs (pgA G p).2.2 (c + 1) = lsBt rz cs (pgA G p).2.2 c := by
            show lsBt rz cs (pgA G p).2.2 c ||| (if lkL rz (cs.drop (cmA (pgA G p).2.2 c).1) = true then bt c else 0) = _
            rw [if_neg hn, Int32.or_zero]
          rw [ebb]
        · have hn : lkL rz (cs.drop (cmA (pgA G p).2.2 c).1) = true := by
            apply Classical.byContradiction
            intro t
            rw [if_neg t] at y
            exact y rfl
          refine ⟨inb (by omega) (by decide), inb (by omega) (by decide), ?_⟩
          rw [nI_1]
          refine ih2 (c + 1) _ (by omega) (f.set (by simp)) (fun q h6 => ?_)
          have ebb : lsBt rz cs (pgA G p).2.2 (c + 1) = lsBt rz cs (pgA G p).2.2 c ||| bt c := by
            show lsBt rz cs (pgA G p).2.2 c ||| (if lkL rz (cs.drop (cmA (pgA G p).2.2 c).1) = true then bt c else 0) = _
            rw [if_pos hn]
          by_cases q2 : q = p
          · rw [q2, xI_ss, hq p (by omega), if_neg (Nat.lt_irrefl _), if_pos rfl, if_neg (Nat.lt_irrefl _), if_pos rfl, ebb]
            rfl
          · rw [xI_sd q2, hq q h6, if_neg q2, if_neg q2]
    refine inner (pgA G p).2.2.length 0 h (by omega) f (fun q h6 => ?_)
    rw [hq q h6]
    by_cases q1 : q < p
    · rw [if_pos q1, if_pos q1]
    · rw [if_neg q1, if_neg q1]
      split
      · rfl
      · rfl
end CJD

/-! READING: laws of the other side -/
/-- alike but for the one side's codes -/
def eqC (m m' : Md) : Prop := match m, m' with
  | .error e, .error e' => e = e'
  | .ok (a, sf, _, rs), .ok (a', sf', _, rs') => a = a' ∧ sf = sf' ∧ rs = rs'
  | _, _ => False
theorem eqC.rf (m : Md) : eqC m m := by
  match m with
  | .error e => exact rfl
  | .ok (a, sf, cs, rs) => exact ⟨rfl, rfl, rfl⟩
theorem eqC.sy {m m' : Md} (h : eqC m m') : eqC m' m := by
  match m, m', h with
  | .error e, .error e', h => exact Eq.symm h
  | .ok (a, sf, cs, rs), .ok (a', sf', cs', rs'), h => exact ⟨h.1.symm, h.2.1.symm, h.2.2.symm⟩
theorem eqC.tr {m m' m2 : Md} (h : eqC m m') (h' : eqC m' m2) : eqC m m2 := by
  match m, m', m2, h, h' with
  | .error e, .error e', .error e2, h, h' => exact Eq.trans h h'
  | .ok (a, sf, cs, rs), .ok (a', sf', cs', rs'), .ok (a2, sf2, cs2, rs2), h, h' => exact ⟨h.1.trans h'.1, h.2.1.trans h'.2.1, h.2.2.trans h'.2.2⟩
theorem eqC.pu (c : Cd) (m : Md) : eqC (puS c m) m := by
  match m with
  | .error e => exact rfl
  | .ok (a, sf, cs, rs) => exact ⟨rfl, rfl, rfl⟩
theorem eqC.pat (k : Nat) (m : Md) : eqC (patS k m) m := by
  match m with
  | .error e => exact rfl
  | .ok (a, sf, cs, rs) => exact ⟨rfl, rfl, rfl⟩
theorem eqC.tk {k p : Nat → Nat} {x : Nat} {m m' : Md} (h : eqC m m') : eqC (tkS k p x m) (tkS k p x m') := by
  match m, m', h with
  | .error e, .error e', h => exact h
  | .ok (a, sf, cs, rs), .ok (a', sf', cs', rs'), h =>
    obtain ⟨h1, h2, h3⟩ := h
    subst h1
    subst h2
    subst h3
    show eqC (if k a = x then (if a < 400 then .ok (a + 1, sf, cs, rs) else .error (2, p a)) else .error (1, p a)) (if k a = x then (if a < 400 then .ok (a + 1, sf, cs', rs) else .error (2, p a)) else .error (1, p a))
    split
    · split
      · exact ⟨rfl, rfl, rfl⟩
      · exact rfl
    · exact rfl
theorem pop_c2 {c : Nat} : ∀ ws cs cs' rs, (pop c ws cs rs).2.2 = (pop c ws cs' rs).2.2 ∧ (pop c ws cs rs).1 = (pop c ws cs' rs).1 := by
  intro ws
  induction ws with
  | nil => intro cs cs' rs; exact ⟨rfl, rfl⟩
  | cons w t ih =>
    intro cs cs' rs
    show (if c ≤ clo w then pop c t (apC cs (opc w, 0)) (rs ++ [(opc w, 0)]) else (w :: t, cs, rs)).2.2 = (if c ≤ clo w then pop c t (apC cs' (opc w, 0)) (rs ++ [(opc w, 0)]) else (w :: t, cs', rs)).2.2 ∧ (if c ≤ clo w then pop c t (apC cs (opc w, 0)) (rs ++ [(opc w, 0)]) else (w :: t, cs, rs)).1 = (if c ≤ clo w then pop c t (apC cs' (opc w, 0)) (rs ++ [(opc w, 0)]) else (w :: t, cs', rs)).1
    split
    · exact ih _ _ _
    · exact ⟨rfl, rfl⟩
theorem xpr_c {k p v : Nat → Nat} {law : Bool} {pg : Nat} : ∀ f ne due ws a sf cs cs' rs, eqC (xpr k p v law pg f ne due ws (a, sf, cs, rs)) (xpr k p v law pg f ne due ws (a, sf, cs', rs)) := by
  intro f
  induction f with
  | zero => intro ne due ws a sf cs cs' rs; exact ⟨rfl, rfl, rfl⟩
  | succ f ih =>
    intro ne due ws a sf cs cs' rs
    have e1 := pop_c2 (c := clo (k a)) ws cs cs' rs
    have e2 := pop_c2 (c := 1) ws cs cs' rs
    unfold xpr
    split
    · split
      · split
        · exact ih _ _ _ _ _ _ _ _
        · exact rfl
      · exact rfl
    · split
      · have ue : ∀ cs, unS k p v law pg (.ok (a, sf, cs, rs)) = match unC k v pg a with
          | none => .error (1, p a)
          | some c => .ok (a, if law = true ∧ k a = 114 then sfO sf (some (6, p a)) else sf, apC cs c, rs ++ [c]) := fun _ => rfl
        cases hu : unC k v pg a with
        | none =>
          rw [ue cs, ue cs', hu]
          exact rfl
        | some c =>
          rw [ue cs, ue cs', hu]
          dsimp only
          split
          · exact ih _ _ _ _ _ _ _ _
          · exact rfl
      · split
        · split
          · rw [e1.1, e1.2]
            exact ih _ _ _ _ _ _ _ _
          · exact rfl
        · split
          · split
            · rw [e2.1, e2.2]
              exact ih _ _ _ _ _ _ _ _
            · exact rfl
          · split
            · exact rfl
            · exact ⟨rfl, rfl, e2.1⟩
theorem eqC.ex {k p v : Nat → Nat} {law : Bool} {pg : Nat} {m m' : Md} (h : eqC m m') : eqC (exS k p v law pg m) (exS k p v law pg m') := by
  match m, m', h with
  | .error e, .error e', h => exact h
  | .ok (a, sf, cs, rs), .ok (a', sf', cs', rs'), h =>
    obtain ⟨h1, h2, h3⟩ := h
    subst h1
    subst h2
    subst h3
    exact xpr_c 401 0 true [] a sf cs cs' rs
theorem eqC.rl {m m' : Md} (h : eqC m m') : rlM m = rlM m' ∧ atM m = atM m' := by
  match m, m', h with
  | .error e, .error e', h => exact ⟨rfl, rfl⟩
  | .ok (a, sf, cs, rs), .ok (a', sf', cs', rs'), h => exact ⟨by show rs.length = rs'.length; rw [h.2.2], h.1⟩
theorem eqC.ok {m m' : Md} {c : Co} (h : eqC m m') (e : m' = .ok c) : ∃ c', m = .ok c' ∧ c'.1 = c.1 ∧ c'.2.2.2 = c.2.2.2 := by
  subst e
  match m, h with
  | .ok (a, sf, cs, rs), h => exact ⟨_, rfl, h.1, h.2.2⟩
/-- tokens that went by -/
theorem xpr_at {k p v : Nat → Nat} {law : Bool} {pg : Nat} : ∀ f ne due ws a sf cs rs c, xpr k p v law pg f ne due ws (a, sf, cs, rs) = .ok c → a ≤ c.1 ∧ (due = true → 0 < f → a + 1 ≤ c.1) := by
  intro f
  induction f with
  | zero =>
    intro ne due ws a sf cs rs c e
    cases e
    exact ⟨Nat.le_refl _, fun _ q => absurd q (by omega)⟩
  | succ f ih =>
    intro ne due ws a sf cs rs c e
    unfold xpr at e
    split at e
    · split at e
      · split at e
        · have := (ih _ _ _ _ _ _ _ _ e).1
          exact ⟨by omega, fun _ _ => by omega⟩
        · cases e
      · cases e
    · split at e
      · have ue : unS k p v law pg (.ok (a, sf, cs, rs)) = match unC k v pg a with
          | none => .error (1, p a)
          | some c => .ok (a, if law = true ∧ k a = 114 then sfO sf (some (6, p a)) else sf, apC cs c, rs ++ [c]) := rfl
        cases hu : unC k v pg a with
        | none => rw [ue, hu] at e; cases e
        | some d =>
          rw [ue, hu] at e
          dsimp only at e
          split at e
          · have := (ih _ _ _ _ _ _ _ _ e).1
            exact ⟨by omega, fun _ _ => by omega⟩
          · cases e
      · rename_i nd
        split at e
        · split at e
          · have := (ih _ _ _ _ _ _ _ _ e).1
            exact ⟨by omega, fun q _ => absurd q nd⟩
          · cases e
        · split at e
          · split at e
            · have := (ih _ _ _ _ _ _ _ _ e).1
              exact ⟨by omega, fun q _ => absurd q nd⟩
            · cases e
          · split at e
            · cases e
            · cases e
              exact ⟨Nat.le_refl _, fun q _ => absurd q nd⟩
theorem ex_at {k p v : Nat → Nat} {law : Bool} {pg : Nat} {m : Md} {c : Co} (e : exS k p v law pg m = .ok c) : ∃ c0, m = .ok c0 ∧ c0.1 + 1 ≤ c.1 := by
  match m, e with
  | .ok (a, sf, cs, rs), e => exact ⟨_, rfl, (xpr_at 401 0 true [] a sf cs rs c e).2 rfl (by decide)⟩
theorem tk_at {k p : Nat → Nat} {x : Nat} {m : Md} {c : Co} (e : tkS k p x m = .ok c) : ∃ c0, m = .ok c0 ∧ c0.1 + 1 = c.1 := by
  obtain ⟨a, sf, cs, rs, e1, _, _, e2⟩ := tk_ok e
  exact ⟨_, e1, by rw [e2]⟩
section RLW
variable {s o : Nat} {B : Nat → Nat} {n : Nat} {h h0 : XH} {m : Md} {a : Nat} {sf : Option (Nat × Nat)} {cs rs : List Cd} {Q : Value → XH → Prop}
theorem RR.eq {m' : Md} (e : eqC m m') (r : RR s o B n m h) : RR s o B n m' h := by
  match m, m', e, r with
  | .error e1, .error e2, e, r => cases e; exact r
  | .ok (a, sf, cs, rs), .ok (a', sf', cs', rs'), e, r =>
    obtain ⟨h1, h2, h3⟩ := e
    subst h1
    subst h2
    subst h3
    exact r
theorem RR.c51' (r : RR s o B n m h) : ∃ c, c ≤ 402 ∧ xI h 69 51 = nI (420 * s + c) ∧ ∀ co, m = .ok co → c = rlM m := by
  match m, r with
  | .error e, r => obtain ⟨e1, e2, e3, e4, e5, e6, c, e8, e9⟩ := r.2; exact ⟨c, e8, e9, fun co hco => by cases hco⟩
  | .ok (a, sf, cs, rs), r => exact ⟨rs.length, by have := r.2.2.2.1.1; have := r.2.2.2.2.2.2.1; omega, r.c51, fun co _ => rfl⟩
abbrev SBr : List Nat := [94, 95, 98, 99, 100, 101, 102, 103, 104, 105]
abbrev FB : List Nat := [11, 12, 13, 14, 15, 16, 39, 45, 51, 55]
theorem gb2 {h1 : XH} (g : Gs s SE FE h h1) : Gs s SBr FB h h1 := g.mono (by decide) (by decide)
/-- branches other than x stay -/
def bK (x : Nat) (h h1 : XH) : Prop := ∀ j, j ≠ x → xI h1 98 j = xI h 98 j ∧ xI h1 99 j = xI h 99 j ∧ xI h1 100 j = xI h 100 j ∧ xI h1 101 j = xI h 101 j ∧ xI h1 102 j = xI h 102 j
theorem bK.ex {x : Nat} {h1 : XH} (g : Gs s SE FE h h1) : bK x h h1 := fun j _ => by
  rw [g.at (a := 98) (by decide) (by decide), g.at (a := 99) (by decide) (by decide), g.at (a := 100) (by decide) (by decide), g.at (a := 101) (by decide) (by decide), g.at (a := 102) (by decide) (by decide)]
  exact ⟨rfl, rfl, rfl, rfl, rfl⟩
theorem bK.tr {x : Nat} {h1 h2 : XH} (p : bK x h h1) (q : bK x h1 h2) : bK x h h2 := fun j hj => by
  obtain ⟨p1, p2, p3, p4, p5⟩ := p j hj
  obtain ⟨q1, q2, q3, q4, q5⟩ := q j hj
  exact ⟨q1.trans p1, q2.trans p2, q3.trans p3, q4.trans p4, q5.trans p5⟩
theorem c_term {pg x : Nat} {K : XH → Prop} (r : RR s 0 B n m h) (e42 : xI h 69 42 = 1) (hl : lt1 m) (hx0 : 130 * s ≤ x ∧ x < 130 * s + 130) (e45 : xI h 69 45 = nI x)
    (k : ∀ h1, Gs s SBr FB h h1 → RR s 0 B n (exS (kS B n) (pS B n) (vS B n) true pg m) h1 → lt1 (exS (kS B n) (pS B n) (vS B n) true pg m) → xI h1 69 45 = nI (x + 1) → bK x h h1 → xI h1 98 = xI h 98 → xI h1 99 = xI h 99 → xI h1 100 = xI h 100 → (∀ c, exS (kS B n) (pS B n) (vS B n) true pg m = .ok c → xI h1 101 x = nI (420 * s + rlM m) ∧ xI h1 102 x = nI (420 * s + rlM (exS (kS B n) (pS B n) (vS B n) true pg m))) → K h1) : ClV 200 [.ref 69] h K := by
  have hx : x < 260 := by have : s < 2 := r.1.2.1; omega
  obtain ⟨c, hc, ec, ecr⟩ := r.c51'
  have g1' : Gs s [101] [] h (xsI h 101 x (nI (420 * s + c))) := Gs.rf.set (by decide) (by decide)
  have r1 := r.gx g1' (by decide) (by decide)
  have A1 : xI (xsI h 101 x (nI (420 * s + c))) 101 = up (xI h 101) x (nI (420 * s + c)) := xI_s
  refine B_200_0 r.sh ?_
  rw [e45, tn_nI (show x < 2 ^ 31 by omega), ec]
  have i45 : xI (xsI h 101 x (nI (420 * s + c))) 69 45 = nI x := by rw [xI_n (by decide)]; exact e45
  have i51 : xI (xsI h 101 x (nI (420 * s + c))) 69 51 = nI (420 * s + c) := by rw [xI_n (by decide)]; exact ec
  generalize xsI h 101 x (nI (420 * s + c)) = h1 at g1' r1 A1 i45 i51 ⊢
  have last : ∀ (d : Nat) (h2 : XH), Gs s SE FE h1 h2 → RR s 0 B n (exS (kS B n) (pS B n) (vS B n) true pg m) h2 → lt1 (exS (kS B n) (pS B n) (vS B n) true pg m) → (∀ co, exS (kS B n) (pS B n) (vS B n) true pg m = .ok co → d = rlM (exS (kS B n) (pS B n) (vS B n) true pg m)) → K (xsI (xsI h2 102 x (nI (420 * s + d))) 69 45 (nI (x + 1))) := by
    intro d h2 g2 r2 l2 ed
    have g3 : Gs s [102] [45] h2 (xsI (xsI h2 102 x (nI (420 * s + d))) 69 45 (nI (x + 1))) := (Gs.rf.set (by decide) (by decide)).fld (by decide)
    have r3 := r2.gx g3 (by decide) (by decide)
    have z98 : xI (xsI (xsI h2 102 x (nI (420 * s + d))) 69 45 (nI (x + 1))) 98 = xI h 98 := by rw [g3.at (by decide) (by decide), g2.at (by decide) (by decide), g1'.at (by decide) (by decide)]
    have z99 : xI (xsI (xsI h2 102 x (nI (420 * s + d))) 69 45 (nI (x + 1))) 99 = xI h 99 := by rw [g3.at (by decide) (by decide), g2.at (by decide) (by decide), g1'.at (by decide) (by decide)]
    have z100 : xI (xsI (xsI h2 102 x (nI (420 * s + d))) 69 45 (nI (x + 1))) 100 = xI h 100 := by rw [g3.at (by decide) (by decide), g2.at (by decide) (by decide), g1'.at (by decide) (by decide)]
    have z101 : xI (xsI (xsI h2 102 x (nI (420 * s + d))) 69 45 (nI (x + 1))) 101 = up (xI h 101) x (nI (420 * s + c)) := by rw [g3.at (by decide) (by decide), g2.at (by decide) (by decide), A1]
    have z102 : xI (xsI (xsI h2 102 x (nI (420 * s + d))) 69 45 (nI (x + 1))) 102 = up (xI h 102) x (nI (420 * s + d)) := by rw [xI_n (by decide), xI_s, g2.at (by decide) (by decide), g1'.at (by decide) (by decide)]
    refine k _ (((g1'.mono (by decide) (by decide)).tr (gb2 g2)).tr (g3.mono (by decide) (by decide))) r3 l2 xI_ss (fun j hj => ?_) z98 z99 z100 (fun co hco => ?_)
    · rw [z98, z99, z100, z101, z102, up_ne hj, up_ne hj]
      exact ⟨rfl, rfl, rfl, rfl, rfl⟩
    · rw [z101, z102, up_same, up_same, ← ed co hco]
      obtain ⟨c0, h0, _⟩ := ex_at hco
      rw [← ecr c0 h0]
      exact ⟨rfl, rfl⟩
  refine ⟨inb hx (by decide), fun z => ?_, fun z => ?_⟩
  · match m, r1, hl, ecr, last with
    | .ok (a, sf, cs, rs), r1, hl, ecr, last => exact absurd r1.z z
    | .error e, r1, hl, ecr, last =>
      rw [i45, tn_nI (show x < 2 ^ 31 by omega), i51]
      refine ⟨inb hx (by decide), fun h2 eh => ⟨rfl, ?_⟩⟩
      have j45 : xI h2 69 45 = nI x := by rw [eh, xI_n (by decide)]; exact i45
      rw [j45, nI_1, eh]
      exact last c h1 Gs.rf r1 hl (fun co hco => by cases hco)
  · refine c_exprR (law := true) (pg := pg) r1 (by rw [g1'.f (by decide)]; exact e42) hl (fun h2 g2 r2 l2 => ?_)
    have j45 : xI h2 69 45 = nI x := by rw [g2.f (by decide)]; exact i45
    obtain ⟨d, hd, ed, edr⟩ := r2.c51'
    have k45 : xI (xsI h2 102 x (nI (420 * s + d))) 69 45 = nI x := by rw [xI_n (by decide)]; exact j45
    rw [j45, tn_nI (show x < 2 ^ 31 by omega), ed, k45, nI_1]
    exact ⟨r2.sh, inb hx (by decide), rfl, last d h2 g2 r2 l2 edr⟩
end RLW

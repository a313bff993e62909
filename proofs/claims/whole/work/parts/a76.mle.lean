/-! READING: what stays when reading goes on -/
def mle (d : Nat) (m m' : Md) : Prop := ∀ c, m' = .ok c → ∃ c0, m = .ok c0 ∧ c0.1 + d ≤ c.1 ∧ (c.2.1 = none → c0.2.1 = none) ∧ ∃ t, c.2.2.2 = c0.2.2.2 ++ t
section MLE
variable {k p v : Nat → Nat} {law : Bool} {pg : Nat} {m m' m2 : Md} {d d' : Nat} {B : Nat → Nat} {n : Nat}
theorem mle.rf : mle 0 m m := fun c hc => ⟨c, hc, Nat.le_refl _, id, [], (List.append_nil _).symm⟩
theorem mle.tr (x : mle d m m') (y : mle d' m' m2) : mle (d + d') m m2 := fun c hc => by
  obtain ⟨c1, e1, l1, n1, t1, q1⟩ := y c hc
  obtain ⟨c0, e0, l0, n0, t0, q0⟩ := x c1 e1
  exact ⟨c0, e0, by omega, fun z => n0 (n1 z), t0 ++ t1, by rw [q1, q0, List.append_assoc]⟩
theorem mle.le (x : mle d m m') (h : d' ≤ d) : mle d' m m' := fun c hc => by
  obtain ⟨c0, e0, l0, n0⟩ := x c hc
  exact ⟨c0, e0, by omega, n0⟩
theorem mle.tk {x : Nat} : mle 1 m (tkS k p x m) := fun c hc => by
  obtain ⟨a, sf, cs, rs, e1, _, _, e2⟩ := tk_ok hc
  subst e2
  exact ⟨_, e1, Nat.le_refl _, id, [], (List.append_nil _).symm⟩
theorem mle.pu {x : Cd} : mle 0 m (puS x m) := fun c hc => by
  match m, hc with
  | .ok (a, sf, cs, rs), hc => cases hc; exact ⟨_, rfl, Nat.le_refl _, id, [], (List.append_nil _).symm⟩
theorem mle.pat {x : Nat} : mle 0 m (patS x m) := fun c hc => by
  match m, hc with
  | .ok (a, sf, cs, rs), hc => cases hc; exact ⟨_, rfl, Nat.le_refl _, id, [], (List.append_nil _).symm⟩
theorem mle.sft {x j : Nat} : mle 0 m (sftS p x j m) := fun c hc => by
  match m, hc with
  | .ok (a, sf, cs, rs), hc => cases hc; exact ⟨_, rfl, Nat.le_refl _, fun z => sfO_n z, [], (List.append_nil _).symm⟩
theorem pop_pre {c : Nat} : ∀ ws cs rs, ∃ t, (pop c ws cs rs).2.2 = rs ++ t := by
  intro ws
  induction ws with
  | nil => intro cs rs; exact ⟨[], (List.append_nil _).symm⟩
  | cons w t ih =>
    intro cs rs
    show ∃ t', (if c ≤ clo w then pop c t (apC cs (opc w, 0)) (rs ++ [(opc w, 0)]) else (w :: t, cs, rs)).2.2 = rs ++ t'
    split
    · obtain ⟨t', e⟩ := ih (apC cs (opc w, 0)) (rs ++ [(opc w, 0)])
      exact ⟨[(opc w, 0)] ++ t', by rw [e, List.append_assoc]⟩
    · exact ⟨[], (List.append_nil _).symm⟩
theorem xpr_le : ∀ f ne due ws a sf cs rs c, xpr k p v law pg f ne due ws (a, sf, cs, rs) = .ok c → (c.2.1 = none → sf = none) ∧ ∃ t, c.2.2.2 = rs ++ t := by
  intro f
  induction f with
  | zero =>
    intro ne due ws a sf cs rs c e
    cases e
    exact ⟨id, [], (List.append_nil _).symm⟩
  | succ f ih =>
    intro ne due ws a sf cs rs c e
    unfold xpr at e
    split at e
    · split at e
      · split at e
        · exact ih _ _ _ _ _ _ _ _ e
        · cases e
      · cases e
    · split at e
      · have ue : unS k p v law pg (.ok (a, sf, cs, rs)) = match unC k v pg a with
          | none => .error (1, p a)
          | some c => .ok (a, if law = true ∧ k a = 114 then sfO sf (some (6, p a)) else sf, apC cs c, rs ++ [c]) := rfl
        cases hu : unC k v pg a with
        | none => rw [ue, hu] at e; cases e
        | some d =>
          rw [ue, hu] at e
          dsimp only at e
          split at e
          · obtain ⟨h1, t, h2⟩ := ih _ _ _ _ _ _ _ _ e
            refine ⟨fun z => ?_, [d] ++ t, by rw [h2, List.append_assoc]⟩
            have := h1 z
            split at this
            · exact sfO_n this
            · exact this
          · cases e
      · split at e
        · split at e
          · obtain ⟨h1, t, h2⟩ := ih _ _ _ _ _ _ _ _ e
            obtain ⟨t', h3⟩ := pop_pre (c := clo (k a)) ws cs rs
            exact ⟨h1, t' ++ t, by rw [h2, h3, List.append_assoc]⟩
          · cases e
        · split at e
          · split at e
            · obtain ⟨h1, t, h2⟩ := ih _ _ _ _ _ _ _ _ e
              obtain ⟨t', h3⟩ := pop_pre (c := 1) ws cs rs
              exact ⟨h1, t' ++ t, by rw [h2, h3, List.append_assoc]⟩
            · cases e
          · split at e
            · cases e
            · cases e
              exact ⟨id, pop_pre (c := 1) ws cs rs⟩
theorem mle.ex : mle 1 m (exS k p v law pg m) := fun c hc => by
  match m, hc with
  | .ok (a, sf, cs, rs), hc =>
    have h1 := xpr_at 401 0 true [] a sf cs rs c hc
    have h2 := xpr_le 401 0 true [] a sf cs rs c hc
    exact ⟨_, rfl, h1.2 rfl (by decide), h2⟩
theorem mle.sg : mle 1 m (sgM k p m) := fun c hc => by
  match m, hc with
  | .ok (a, sf, cs, rs), hc =>
    have e : sgM k p (.ok (a, sf, cs, rs)) = if k a = 60 ∨ k a = 61 ∨ k a = 62 then tkS k p (k a) (.ok (a, sf, cs, rs)) else .error (1, p a) := rfl
    rw [e] at hc
    split at hc
    · exact mle.tk c hc
    · cases hc
theorem mle.sh : mle 1 m (shS k p m) := fun c hc => by
  match m, hc with
  | .ok (a, sf, cs, rs), hc =>
    have e : shS k p (.ok (a, sf, cs, rs)) = if k a = 105 ∨ k a = 106 ∨ k a = 107 then tkS k p (k a) (.ok (a, sf, cs, rs)) else .error (1, p a) := rfl
    rw [e] at hc
    split at hc
    · exact mle.tk c hc
    · cases hc
theorem mle.cm : mle 3 m (cmS k p v pg m) := (((mle.ex (law := false)).tr (mle.sg)).tr (mle.ex (law := false))).tr ((mle.pu).tr mle.pu)
theorem mle.cl : ∀ f m l, mle 0 m (cmL k p v pg f m l).1 := by
  intro f
  induction f with
  | zero => intro m l; exact mle.rf
  | succ f ih =>
    intro m l
    match m with
    | .error e => exact mle.rf
    | .ok (a, sf, cs, rs) =>
      show mle 0 _ (if k a = 108 then (if l.length < 6 then cmL k p v pg f (cmS k p v pg (tkS k p 108 (.ok (a, sf, cs, rs)))) (l ++ [cmB k p v pg (tkS k p 108 (.ok (a, sf, cs, rs)))]) else (.error (2, p a), l)) else (.ok (a, sf, cs, rs), l)).1
      split
      · split
        · exact (((mle.tk).tr mle.cm).tr (ih _ _)).le (by omega)
        · exact fun c hc => by cases hc
      · exact mle.rf
theorem mle.i6 : mle 5 m (if6 k p v pg m) := (((((mle.tk).tr (mle.ex (law := true))).tr (mle.tk)).tr ((mle.ex (law := true)).tr mle.tk)).tr mle.pu).le (by omega)
theorem mle.iS : mle 7 m (ifS k p v pg m) := ((mle.i6.tr ((mle.pu).tr (mle.ex (law := true)))).tr (((mle.pu).tr mle.tk).tr mle.pat)).le (by omega)
theorem mle.lwL : ∀ f m b, mle 0 m (lawL k p v pg f m b).1 := by
  intro f
  induction f with
  | zero => intro m b; exact mle.rf
  | succ f ih =>
    intro m b
    match m with
    | .error e => exact mle.rf
    | .ok (a, sf, cs, rs) =>
      show mle 0 _ (if k a = 111 then (if f = 0 then (.error (2, p a), b) else lawL k p v pg f (ifS k p v pg (.ok (a, sf, cs, rs))) (b ++ [ifB k p v pg (.ok (a, sf, cs, rs))])) else (.ok (a, sf, cs, rs), b)).1
      split
      · split
        · exact fun c hc => by cases hc
        · exact (mle.iS.tr (ih _ _)).le (by omega)
      · exact mle.rf
theorem mle.lwM : mle 1 m (lawM k p v pg m).1 := (mle.tk.tr (mle.lwL 5 _ _)).le (by omega)
theorem mle.lwS : mle 2 m (lawS k p v pg m) := ((mle.lwM.tr (mle.ex (law := true))).tr mle.pu).le (by omega)
theorem mle.p3 {F : List Fa} {G : List Pg} {a : Nat} : mle 0 m (pg3 B n F G a m) := fun c hc => by
  match m, hc with
  | .ok (b, sf, cs, rs), hc =>
    have e : pg3 B n F G a (.ok (b, sf, cs, rs)) = if told (nS B n (a + 1)) F G = true then sftS (pS B n) 3 (a + 1) (.ok (b, sf, cs, rs)) else .ok (b, sf, cs, rs) := rfl
    rw [e] at hc
    split at hc
    · exact mle.sft c hc
    · exact mle.rf c hc
theorem mle.go {F : List Fa} {a : Nat} : mle 0 m (goM B n F pg a m) := fun c hc => by
  match m, hc with
  | .ok (b, sf, cs, rs), hc =>
    have e : goM B n F pg a (.ok (b, sf, cs, rs)) = match fiF (nS B n (a + 1)) F F.length 0 with
      | none => sftS (pS B n) 4 (a + 1) (.ok (b, sf, cs, rs))
      | some _ => .ok (b, sf, cs, rs) := rfl
    rw [e] at hc
    split at hc
    · exact mle.sft c hc
    · exact mle.rf c hc
theorem mle.p4 {F : List Fa} {G : List Pg} {a : Nat} : mle 3 m (pg4 B n F G a m) := ((mle.tk.tr mle.tk).tr (mle.p3.tr mle.sh)).le (by omega)
theorem mle.p6 {F : List Fa} {G : List Pg} {a : Nat} : mle 6 m (pg6 B n F G a m).1 := (mle.p4.tr (mle.cm.tr (mle.cl _ _ _))).le (by omega)
theorem mle.gS {F : List Fa} {a : Nat} : mle 5 m (goS B n F pg a m) := ((mle.tk.tr mle.tk).tr (mle.go.tr (mle.lwS.tr mle.tk))).le (by omega)
end MLE

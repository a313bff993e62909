/-! READING: what whole laws and pages put, on both sides -/
abbrev C3 : Type := List Cd × List Cd × Nat
def ccI : List C3 → List Cd
  | [] => []
  | (x, y, so) :: t => (x ++ y ++ [(6 + so, 0), (10, 0)]) ++ ccI t
def crI : List C3 → List Cd
  | [] => []
  | (x, y, _) :: t => (x ++ y) ++ crI t
def cbI : List C3 → Nat → Nat → List Cm
  | [], _, _ => []
  | (x, y, so) :: t, i, r => (i, r, r + x.length, r + x.length + y.length, so) :: cbI t (i + x.length + y.length + 2) (r + x.length + y.length)
section PL2
variable {k p v : Nat → Nat} {pg : Nat} {a : Nat} {sf : Option (Nat × Nat)} {cs rs : List Cd} {c : Co} {m : Md}
theorem lcI_len : ∀ (L : List E3) (b b' : Nat), (lcI L b).length = (lcI L b').length := by
  intro L
  induction L with
  | nil => intro b b'; rfl
  | cons t L ih =>
    intro b b'
    obtain ⟨x, y, z⟩ := t
    show ((x ++ y ++ [(6, 0), (9, b + x.length + y.length + 3 + z.length)] ++ z ++ [(10, 0)]) ++ lcI L _).length = ((x ++ y ++ [(6, 0), (9, b' + x.length + y.length + 3 + z.length)] ++ z ++ [(10, 0)]) ++ lcI L _).length
    rw [List.length_append, List.length_append, ih _ (b' + x.length + y.length + 3 + z.length)]
    simp only [List.length_append, List.length_cons, List.length_nil]
theorem xE.w {P P' : Prop} {E : List Cd} (h : xE k v pg P E) (hp : P' → P) : xE k v pg P' E := ⟨h.1, h.2.1, fun z => h.2.2 (hp z)⟩
def gdL (k v : Nat → Nat) (pg : Nat) (P : Prop) (L : List E3) : Prop := ∀ t ∈ L, xE k v pg P t.1 ∧ xE k v pg P t.2.1 ∧ xE k v pg P t.2.2
theorem lawL_E : ∀ f a sf cs rs b c b', a ≤ 400 → cs.length ≤ a → lawL k p v pg f (.ok (a, sf, cs, rs)) b = (.ok c, b') → ∃ L a' sf', c = (a', sf', cs ++ lcI L cs.length, rs ++ rcI L) ∧ b' = b ++ brI L rs.length ∧ gdL k v pg (sf' = none) L ∧ a' ≤ 400 ∧ (lcI L cs.length).length + a ≤ a' ∧ inc a a' (tks (rcI L)) ∧ (sf' = none → sf = none) := by
  intro f
  induction f with
  | zero =>
    intro a sf cs rs b c b' a4 hl e
    cases e
    exact ⟨[], a, sf, by show _ = (a, sf, cs ++ [], rs ++ []); rw [List.append_nil, List.append_nil], (List.append_nil _).symm, fun t ht => (by cases ht), a4, by show 0 + a ≤ a; omega, Nat.le_refl _, id⟩
  | succ f ih =>
    intro a sf cs rs b c b' a4 hl e
    have e : (if k a = 111 then (if f = 0 then (.error (2, p a), b) else lawL k p v pg f (ifS k p v pg (.ok (a, sf, cs, rs))) (b ++ [ifB k p v pg (.ok (a, sf, cs, rs))])) else (.ok (a, sf, cs, rs), b)) = ((.ok c, b') : Md × List Br) := e
    split at e
    · split at e
      · cases e
      · match hm : ifS k p v pg (.ok (a, sf, cs, rs)) with
        | .error er =>
          rw [hm] at e
          cases f with
          | zero => cases e
          | succ f => cases e
        | .ok c1 =>
          rw [hm] at e
          obtain ⟨x, y, z, a1, sf1, h1, h2, h3, h4, h5, h6, h7⟩ := if_E a4 hl hm
          subst h1
          have l1 : (cs ++ (x ++ y ++ [(6, 0), (9, cs.length + x.length + y.length + 3 + z.length)] ++ z ++ [(10, 0)])).length = cs.length + x.length + y.length + 3 + z.length := by
            simp only [List.length_append, List.length_cons, List.length_nil]
            omega
          have r1 : (rs ++ (x ++ y ++ z)).length = rs.length + x.length + y.length + z.length := by
            simp only [List.length_append]
            omega
          obtain ⟨L, a', sf', g1, g2, g3, g4, g5, g6, g7⟩ := ih _ _ _ _ _ _ _ h4 (by rw [l1]; omega) e
          rw [l1] at g1 g5
          rw [r1] at g2
          refine ⟨(x, y, z) :: L, a', sf', ?_, ?_, fun t ht => ?_, g4, ?_, ?_, fun q => h7 (g7 q)⟩
          · rw [g1, List.append_assoc, List.append_assoc rs]
            rfl
          · rw [g2, h2, List.append_assoc]
            rfl
          · rcases List.mem_cons.mp ht with q | q
            · subst q
              exact ⟨h3.1.w g7, h3.2.1.w g7, h3.2.2.w g7⟩
            · exact g3 t q
          · show ((x ++ y ++ [(6, 0), (9, cs.length + x.length + y.length + 3 + z.length)] ++ z ++ [(10, 0)]) ++ lcI L (cs.length + x.length + y.length + 3 + z.length)).length + a ≤ a'
            simp only [List.length_append, List.length_cons, List.length_nil]
            omega
          · show inc a a' (tks ((x ++ y ++ z) ++ rcI L))
            rw [tks_app]
            exact inc_app _ _ _ _ _ h6 g6
    · cases e
      exact ⟨[], a, sf, by show _ = (a, sf, cs ++ [], rs ++ []); rw [List.append_nil, List.append_nil], (List.append_nil _).symm, fun t ht => (by cases ht), a4, by show 0 + a ≤ a; omega, Nat.le_refl _, id⟩
theorem law_E (a4 : a ≤ 400) (hl : cs.length ≤ a) (e : lawS k p v pg (.ok (a, sf, cs, rs)) = .ok c) : ∃ L E a' sf', c = (a', sf', cs ++ (lcI L cs.length ++ E ++ [(10, 0)]), rs ++ (rcI L ++ E)) ∧ (lawM k p v pg (.ok (a, sf, cs, rs))).2 ++ [(0, 0, 0, rlM (lawM k p v pg (.ok (a, sf, cs, rs))).1, rlM (exS k p v true pg (lawM k p v pg (.ok (a, sf, cs, rs))).1))] = brI L rs.length ++ [(0, 0, 0, rs.length + (rcI L).length, rs.length + (rcI L).length + E.length)] ∧ gdL k v pg (sf' = none) L ∧ xE k v pg (sf' = none) E ∧ a' ≤ 400 ∧ (cs ++ (lcI L cs.length ++ E ++ [(10, 0)])).length ≤ a' ∧ inc a a' (tks (rcI L ++ E)) ∧ (sf' = none → sf = none) := by
  obtain ⟨a8, sf8, cs8, rs8, e8, w8⟩ := pu_ok e
  obtain ⟨a7, sf7, cs7, rs7, e7⟩ := ex_ok e8
  have em : lawM k p v pg (.ok (a, sf, cs, rs)) = lawL k p v pg 5 (tkS k p 61 (.ok (a, sf, cs, rs))) [] := rfl
  match ht : tkS k p 61 (.ok (a, sf, cs, rs)) with
  | .error er =>
    rw [ht] at em
    rw [em] at e7
    cases e7
  | .ok c1 =>
    obtain ⟨x1, x2, x3, x4, x5, x6, x7, x8⟩ := tk_ok ht
    cases x5
    subst x8
    rw [ht] at em
    obtain ⟨b', hb⟩ : ∃ b', lawL k p v pg 5 (.ok (a + 1, sf, cs, rs)) [] = (.ok (a7, sf7, cs7, rs7), b') := by
      rw [em] at e7
      exact ⟨_, Prod.ext e7 rfl⟩
    rw [hb] at em
    obtain ⟨L, a', sf', g1, g2, g3, g4, g5, g6, g7⟩ := lawL_E 5 _ _ _ _ _ _ _ (by omega) (by omega) hb
    cases g1
    rw [e7] at e8
    obtain ⟨E, aE, sfE, c1, c2, c3, c4, c5, c6⟩ := ex_F g4 (by rw [List.length_append]; omega) e8
    cases c1
    have l8 : ((cs ++ lcI L cs.length) ++ E).length + 1 ≤ a8 := by
      rw [List.length_append, List.length_append]
      omega
    rw [apC_ok (by omega)] at w8
    refine ⟨L, E, a8, sf8, ?_, ?_, fun t ht => ?_, ⟨c3.1, c3.2.1, fun q => c3.2.2 ⟨rfl, q⟩⟩, c2, ?_, ?_, fun q => g7 (c6 q)⟩
    · rw [w8]
      simp only [List.append_assoc]
    · rw [em]
      dsimp only
      rw [e8, g2, List.nil_append]
      have r7 : rlM (.ok (a7, sf7, cs ++ lcI L cs.length, rs ++ rcI L)) = rs.length + (rcI L).length := by show (rs ++ rcI L).length = _; rw [List.length_append]
      have r8 : rlM (.ok (a8, sf8, cs ++ lcI L cs.length ++ E, rs ++ rcI L ++ E)) = rs.length + (rcI L).length + E.length := by show (rs ++ rcI L ++ E).length = _; rw [List.length_append, List.length_append]
      rw [r7, r8]
    · have := g3 t ht
      exact ⟨this.1.w c6, this.2.1.w c6, this.2.2.w c6⟩
    · simp only [List.length_append, List.length_cons, List.length_nil] at l8 ⊢
      omega
    · rw [tks_app]
      exact inc_app _ _ _ _ _ (inc_mo _ _ _ _ _ g6 (by omega) (Nat.le_refl _)) c5
end PL2

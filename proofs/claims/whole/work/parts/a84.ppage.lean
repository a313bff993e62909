/-! READING: what a page puts, on both sides -/
def gdC (k v : Nat → Nat) (pg : Nat) (L : List C3) : Prop := ∀ t ∈ L, xE k v pg False t.1 ∧ xE k v pg False t.2.1 ∧ t.2.2 ≤ 2
section PPG
variable {k p v : Nat → Nat} {pg : Nat} {a : Nat} {sf : Option (Nat × Nat)} {cs rs : List Cd} {c : Co} {m : Md} {B : Nat → Nat} {n : Nat} {F : List Fa} {G : List Pg}
theorem cmL_E : ∀ f a sf cs rs l c l', a ≤ 400 → cs.length ≤ a + 1 → cmL k p v pg f (.ok (a, sf, cs, rs)) l = (.ok c, l') → ∃ L a' sf', c = (a', sf', cs ++ ccI L, rs ++ crI L) ∧ l' = l ++ cbI L cs.length rs.length ∧ gdC k v pg L ∧ a' ≤ 400 ∧ (cs ++ ccI L).length ≤ a' + 1 ∧ inc a a' (tks (crI L)) ∧ (sf' = none → sf = none) ∧ (l.length ≤ 6 → l'.length ≤ 6) := by
  intro f
  induction f with
  | zero =>
    intro a sf cs rs l c l' a4 hl e
    cases e
    exact ⟨[], a, sf, by show _ = (a, sf, cs ++ [], rs ++ []); rw [List.append_nil, List.append_nil], (List.append_nil _).symm, fun t ht => (by cases ht), a4, by show (cs ++ []).length ≤ a + 1; rw [List.append_nil]; exact hl, Nat.le_refl _, id, id⟩
  | succ f ih =>
    intro a sf cs rs l c l' a4 hl e
    have e : (if k a = 108 then (if l.length < 6 then cmL k p v pg f (cmS k p v pg (tkS k p 108 (.ok (a, sf, cs, rs)))) (l ++ [cmB k p v pg (tkS k p 108 (.ok (a, sf, cs, rs)))]) else (.error (2, p a), l)) else (.ok (a, sf, cs, rs), l)) = ((.ok c, l') : Md × List Cm) := e
    split at e
    · split at e
      · rename_i l6
        match hm : cmS k p v pg (tkS k p 108 (.ok (a, sf, cs, rs))) with
        | .error er =>
          rw [hm] at e
          cases f with
          | zero => cases e
          | succ f => cases e
        | .ok c1 =>
          rw [hm] at e
          match ht : tkS k p 108 (.ok (a, sf, cs, rs)) with
          | .error er => rw [ht] at hm; cases hm
          | .ok c0 =>
            obtain ⟨x1, x2, x3, x4, x5, x6, x7, x8⟩ := tk_ok ht
            cases x5
            subst x8
            rw [ht] at hm e
            obtain ⟨E1, E2, so, a1, sf1, h0, h1, h2, h3, h4, h5, h6, h7, h8⟩ := cm_E (by omega) hl hm
            subst h1
            have l1 : (cs ++ (E1 ++ E2 ++ [(6 + so, 0), (10, 0)])).length = cs.length + E1.length + E2.length + 2 := by
              simp only [List.length_append, List.length_cons, List.length_nil]
              omega
            have r1 : (rs ++ (E1 ++ E2)).length = rs.length + E1.length + E2.length := by
              simp only [List.length_append]
              omega
            obtain ⟨L, a', sf', g1, g2, g3, g4, g5, g6, g7, g8⟩ := ih _ _ _ _ _ _ _ h5 h6 e
            rw [l1, r1] at g2
            refine ⟨(E1, E2, so) :: L, a', sf', ?_, ?_, fun t ht => ?_, g4, ?_, ?_, fun q => h8 (g7 q), fun _ => g8 (by rw [ap1]; omega)⟩
            · rw [g1, List.append_assoc, List.append_assoc rs]
              rfl
            · rw [g2, h2, List.append_assoc]
              rfl
            · rcases List.mem_cons.mp ht with q | q
              · subst q
                exact ⟨h3, h4, h0⟩
              · exact g3 t q
            · rw [List.append_assoc] at g5
              exact g5
            · show inc a a' (tks ((E1 ++ E2) ++ crI L))
              rw [tks_app]
              exact inc_app _ _ _ _ _ (inc_mo _ _ _ _ _ h7 (by omega) (Nat.le_refl _)) g6
      · cases e
    · cases e
      exact ⟨[], a, sf, by show _ = (a, sf, cs ++ [], rs ++ []); rw [List.append_nil, List.append_nil], (List.append_nil _).symm, fun t ht => (by cases ht), a4, by show (cs ++ []).length ≤ a + 1; rw [List.append_nil]; exact hl, Nat.le_refl _, id, id⟩
/-- a whole page -/
theorem page_E (a4 : a ≤ 400) (hl : cs.length ≤ a) (e : tkS (kS B n) (pS B n) 59 (pg6 B n F G a (.ok (a, sf, cs, rs))).1 = .ok c) : ∃ L a' sf', c = (a', sf', cs ++ ccI L, rs ++ crI L) ∧ (pg6 B n F G a (.ok (a, sf, cs, rs))).2 = cbI L cs.length rs.length ∧ 1 ≤ L.length ∧ L.length ≤ 6 ∧ gdC (kS B n) (vS B n) G.length L ∧ a' ≤ 400 ∧ (cs ++ ccI L).length ≤ a' ∧ inc a a' (tks (crI L)) ∧ (sf' = none → sf = none ∧ ¬ told (nS B n (a + 1)) F G = true) ∧ (kS B n (a + 2) = 105 ∨ kS B n (a + 2) = 106 ∨ kS B n (a + 2) = 107) ∧ kS B n (a + 1) = 2 := by
  obtain ⟨x1, x2, x3, x4, x5, x6, x7, x8⟩ := tk_ok e
  have em : pg6 B n F G a (.ok (a, sf, cs, rs)) = cmL (kS B n) (pS B n) (vS B n) G.length 6 (cmS (kS B n) (pS B n) (vS B n) G.length (pg4 B n F G a (.ok (a, sf, cs, rs)))) [cmB (kS B n) (pS B n) (vS B n) G.length (pg4 B n F G a (.ok (a, sf, cs, rs)))] := rfl
  match hm : cmS (kS B n) (pS B n) (vS B n) G.length (pg4 B n F G a (.ok (a, sf, cs, rs))) with
  | .error er => rw [em, hm] at x5; cases x5
  | .ok c1 =>
    match h4 : pg4 B n F G a (.ok (a, sf, cs, rs)) with
    | .error er => rw [h4] at hm; cases hm
    | .ok c4 =>
      have e4 : pg4 B n F G a (.ok (a, sf, cs, rs)) = shS (kS B n) (pS B n) (pg3 B n F G a (tkS (kS B n) (pS B n) 2 (tkS (kS B n) (pS B n) 104 (.ok (a, sf, cs, rs))))) := rfl
      match h3 : tkS (kS B n) (pS B n) 2 (tkS (kS B n) (pS B n) 104 (.ok (a, sf, cs, rs))) with
      | .error er => rw [h3] at e4; rw [h4] at e4; cases e4
      | .ok c3 =>
        obtain ⟨y1, y2, y3, y4, y5, y6, y7, y8⟩ := tk_ok h3
        obtain ⟨z1, z2, z3, z4, z5, z6, z7, z8⟩ := tk_ok y5
        cases z5
        cases z8
        subst y8
        rw [h3, h4] at e4
        obtain ⟨S, hS, eS'⟩ : ∃ S, (S = none → sf = none ∧ ¬ told (nS B n (a + 1)) F G = true) ∧ pg3 B n F G a (.ok (a + 1 + 1, sf, cs, rs)) = .ok (a + 2, S, cs, rs) := by
          have e3 : pg3 B n F G a (.ok (a + 1 + 1, sf, cs, rs)) = if told (nS B n (a + 1)) F G = true then sftS (pS B n) 3 (a + 1) (.ok (a + 1 + 1, sf, cs, rs)) else .ok (a + 1 + 1, sf, cs, rs) := rfl
          by_cases q : told (nS B n (a + 1)) F G = true
          · rw [if_pos q] at e3
            refine ⟨sfO sf (some (3, pS B n (a + 1))), fun z => ?_, e3⟩
            have e2 := sfO_n z
            rw [e2] at z
            cases z
          · rw [if_neg q] at e3
            exact ⟨sf, fun z => ⟨z, q⟩, e3⟩
        rw [eS'] at e4
        have e5 : (.ok c4 : Md) = if kS B n (a + 2) = 105 ∨ kS B n (a + 2) = 106 ∨ kS B n (a + 2) = 107 then tkS (kS B n) (pS B n) (kS B n (a + 2)) (.ok (a + 2, S, cs, rs)) else .error (1, pS B n (a + 2)) := e4
        split at e5
        · rename_i hk
          obtain ⟨u1, u2, u3, u4, u5, u6, u7, u8⟩ := tk_ok e5.symm
          cases u5
          subst u8
          rw [h4] at hm
          rw [em, h4, hm] at x5
          obtain ⟨E1, E2, so, a1, sf1, g0, g1, g2, g3, g4, g5, g6, g7, g8⟩ := cm_E (by omega) (by omega) hm
          subst g1
          obtain ⟨l', hl'⟩ : ∃ l', cmL (kS B n) (pS B n) (vS B n) G.length 6 (.ok (a1, sf1, cs ++ (E1 ++ E2 ++ [(6 + so, 0), (10, 0)]), rs ++ (E1 ++ E2))) [cmB (kS B n) (pS B n) (vS B n) G.length (.ok (a + 2 + 1, S, cs, rs))] = (.ok (x1, x2, x3, x4), l') := ⟨_, Prod.ext x5 rfl⟩
          obtain ⟨L, a', sf', f1, f2, f3, f4, f5, f6, f7, f8⟩ := cmL_E 6 _ _ _ _ _ _ _ g5 g6 hl'
          cases f1
          have l1 : (cs ++ (E1 ++ E2 ++ [(6 + so, 0), (10, 0)])).length = cs.length + E1.length + E2.length + 2 := by
            simp only [List.length_append, List.length_cons, List.length_nil]
            omega
          have r1 : (rs ++ (E1 ++ E2)).length = rs.length + E1.length + E2.length := by
            simp only [List.length_append]
            omega
          rw [l1, r1, g2] at f2
          have el : (pg6 B n F G a (.ok (a, sf, cs, rs))).2 = cbI ((E1, E2, so) :: L) cs.length rs.length := by
            rw [em, h4, hm, hl', f2]
            rfl
          have cbl : ∀ (L : List C3) (i r : Nat), (cbI L i r).length = L.length := by
            intro L
            induction L with
            | nil => intro i r; rfl
            | cons t L ih => intro i r; obtain ⟨x, y, so⟩ := t; show (cbI L _ _).length + 1 = L.length + 1; rw [ih]
          have ll := f8 (show 1 ≤ 6 by decide)
          rw [f2] at ll
          refine ⟨(E1, E2, so) :: L, x1 + 1, x2, ?_, el, by show 1 ≤ L.length + 1; omega, ?_, fun t ht => ?_, by omega, ?_, ?_, fun q => hS (g8 (f7 q)), hk, y6⟩
          · rw [x8, List.append_assoc, List.append_assoc rs]
            rfl
          · show L.length + 1 ≤ 6
            have ll : (cbI L (cs.length + E1.length + E2.length + 2) (rs.length + E1.length + E2.length)).length + 1 ≤ 6 := ll
            rw [cbl] at ll
            exact ll
          · rcases List.mem_cons.mp ht with q | q
            · subst q
              exact ⟨g3, g4, g0⟩
            · exact f3 t q
          · rw [List.append_assoc] at f5
            exact f5
          · show inc a (x1 + 1) (tks ((E1 ++ E2) ++ crI L))
            rw [tks_app]
            exact inc_app _ _ _ _ _ (inc_mo _ _ _ _ _ g7 (by omega) (Nat.le_refl _)) (inc_mo _ _ _ _ _ f6 (Nat.le_refl _) (by omega))
        · cases e5
end PPG

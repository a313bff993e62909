/-! READING: what claims and laws put, on both sides -/
abbrev E3 : Type := List Cd × List Cd × List Cd
def lcI : List E3 → Nat → List Cd
  | [], _ => []
  | (x, y, z) :: t, b => (x ++ y ++ [(6, 0), (9, b + x.length + y.length + 3 + z.length)] ++ z ++ [(10, 0)]) ++ lcI t (b + x.length + y.length + 3 + z.length)
def rcI : List E3 → List Cd
  | [] => []
  | (x, y, z) :: t => (x ++ y ++ z) ++ rcI t
def brI : List E3 → Nat → List Br
  | [], _ => []
  | (x, y, z) :: t, b => (1, b, b + x.length, b + x.length + y.length, b + x.length + y.length + z.length) :: brI t (b + x.length + y.length + z.length)
/-- an expression of a claim or a law -/
def xE (k v : Nat → Nat) (pg : Nat) (n12 : Prop) (E : List Cd) : Prop := dW E 0 1 ∧ (∀ x ∈ E, cOkE k v pg x) ∧ (n12 → ∀ x ∈ E, x.1 ≠ 12)
section PLW
variable {k p v : Nat → Nat} {pg : Nat} {a : Nat} {sf : Option (Nat × Nat)} {cs rs : List Cd} {c : Co} {m : Md}
theorem xpr_400 {law : Bool} : ∀ f ne due ws a sf cs rs c, a ≤ 400 → xpr k p v law pg f ne due ws (a, sf, cs, rs) = .ok c → c.1 ≤ 400 := by
  intro f
  induction f with
  | zero => intro ne due ws a sf cs rs c h e; cases e; exact h
  | succ f ih =>
    intro ne due ws a sf cs rs c h e
    unfold xpr at e
    split at e
    · split at e
      · split at e
        · exact ih _ _ _ _ _ _ _ _ (by omega) e
        · cases e
      · cases e
    · split at e
      · split at e
        · cases e
        · split at e
          · exact ih _ _ _ _ _ _ _ _ (by omega) e
          · cases e
      · split at e
        · split at e
          · exact ih _ _ _ _ _ _ _ _ (by omega) e
          · cases e
        · split at e
          · split at e
            · exact ih _ _ _ _ _ _ _ _ (by omega) e
            · cases e
          · split at e
            · cases e
            · cases e; exact h
theorem pu_ok {x : Cd} (e : puS x m = .ok c) : ∃ a sf cs rs, m = .ok (a, sf, cs, rs) ∧ c = (a, sf, apC cs x, rs) := by
  match m, e with
  | .ok (a, sf, cs, rs), e => cases e; exact ⟨a, sf, cs, rs, rfl, rfl⟩
theorem pat_ok {x : Nat} (e : patS x m = .ok c) : ∃ a sf cs rs, m = .ok (a, sf, cs, rs) ∧ c = (a, sf, cs.set x (9, cs.length), rs) := by
  match m, e with
  | .ok (a, sf, cs, rs), e => cases e; exact ⟨a, sf, cs, rs, rfl, rfl⟩
theorem ex_ok {law : Bool} (e : exS k p v law pg m = .ok c) : ∃ a sf cs rs, m = .ok (a, sf, cs, rs) := by
  match m, e with
  | .ok (a, sf, cs, rs), e => exact ⟨a, sf, cs, rs, rfl⟩
/-- an expression, with all that is known before and after -/
theorem ex_F {law : Bool} (a4 : a ≤ 400) (hl : cs.length ≤ a) (e : exS k p v law pg (.ok (a, sf, cs, rs)) = .ok c) : ∃ E a' sf', c = (a', sf', cs ++ E, rs ++ E) ∧ a' ≤ 400 ∧ xE k v pg (law = true ∧ sf' = none) E ∧ E.length + a ≤ a' ∧ inc a a' (tks E) ∧ (sf' = none → sf = none) := by
  obtain ⟨E, h1, h2, h3, h4, h5, h6, h7⟩ := ex_E a4 hl e
  have h8 := xpr_400 _ _ _ _ _ _ _ _ _ a4 e
  have h9 := xpr_le _ _ _ _ _ _ _ _ _ e
  obtain ⟨c1, c2, c3, c4⟩ := c
  have h1 : c3 = cs ++ E := h1
  have h2 : c4 = rs ++ E := h2
  subst h1 h2
  exact ⟨E, c1, c2, rfl, h8, ⟨h3, h6, fun z => h7 z.1 z.2⟩, h4, h5, h9.1⟩
theorem cm_E (a4 : a ≤ 400) (hl : cs.length ≤ a) (e : cmS k p v pg (.ok (a, sf, cs, rs)) = .ok c) : ∃ E1 E2 so a' sf', so ≤ 2 ∧ c = (a', sf', cs ++ (E1 ++ E2 ++ [(6 + so, 0), (10, 0)]), rs ++ (E1 ++ E2)) ∧ cmB k p v pg (.ok (a, sf, cs, rs)) = (cs.length, rs.length, rs.length + E1.length, rs.length + E1.length + E2.length, so) ∧ xE k v pg False E1 ∧ xE k v pg False E2 ∧ a' ≤ 400 ∧ (cs ++ (E1 ++ E2 ++ [(6 + so, 0), (10, 0)])).length ≤ a' + 1 ∧ inc a a' (tks (E1 ++ E2)) ∧ (sf' = none → sf = none) := by
  have hso : soM k p v pg (.ok (a, sf, cs, rs)) ≤ 2 := by unfold soM; split <;> (try split) <;> omega
  have eb : cmB k p v pg (.ok (a, sf, cs, rs)) = (cs.length, rs.length, rlM (cm2 k p v pg (.ok (a, sf, cs, rs))), rlM (cm3 k p v pg (.ok (a, sf, cs, rs))), soM k p v pg (.ok (a, sf, cs, rs))) := rfl
  rw [eb]
  unfold cmS at e
  generalize soM k p v pg (.ok (a, sf, cs, rs)) = so at hso e ⊢
  obtain ⟨a7, sf7, cs7, rs7, e7, w7⟩ := pu_ok e
  obtain ⟨a6, sf6, cs6, rs6, e6, w6⟩ := pu_ok e7
  have e6' : exS k p v false pg (cm2 k p v pg (.ok (a, sf, cs, rs))) = .ok (a6, sf6, cs6, rs6) := e6
  obtain ⟨a2, sf2, cs2, rs2, e2⟩ := ex_ok e6'
  have e2' : sgM k p (cm1 k p v pg (.ok (a, sf, cs, rs))) = .ok (a2, sf2, cs2, rs2) := e2
  obtain ⟨b1, sfb, csb, rsb, e1⟩ : ∃ q sf' cs' rs', cm1 k p v pg (.ok (a, sf, cs, rs)) = .ok (q, sf', cs', rs') := by
    match hm : cm1 k p v pg (.ok (a, sf, cs, rs)) with
    | .ok (x, y, z, w) => exact ⟨x, y, z, w, rfl⟩
    | .error er => rw [hm] at e2'; cases e2'
  obtain ⟨E1, a1', sf1', c1, c2, c3, c4, c5, c6⟩ := ex_F a4 hl e1
  cases c1
  rw [e1] at e2'
  have e2'' : (if k b1 = 60 ∨ k b1 = 61 ∨ k b1 = 62 then tkS k p (k b1) (.ok (b1, sfb, cs ++ E1, rs ++ E1)) else .error (1, p b1)) = (.ok (a2, sf2, cs2, rs2) : Md) := e2'
  split at e2''
  · obtain ⟨y1, y2, y3, y4, y5, y6, y7, y8⟩ := tk_ok e2''
    cases y5
    cases y8
    rw [e2] at e6'
    obtain ⟨E2, a3', sf3', d1, d2, d3, d4, d5, d6⟩ := ex_F (by omega) (by rw [List.length_append]; omega) e6'
    cases d1
    cases w6
    cases w7
    have l6 : ((cs ++ E1) ++ E2).length ≤ a7 := by rw [List.length_append, List.length_append]; omega
    have ap6 : apC ((cs ++ E1) ++ E2) (6 + so, 0) = ((cs ++ E1) ++ E2) ++ [(6 + so, 0)] := apC_ok (by omega)
    have ap7 : apC (((cs ++ E1) ++ E2) ++ [(6 + so, 0)]) (10, 0) = (((cs ++ E1) ++ E2) ++ [(6 + so, 0)]) ++ [(10, 0)] := apC_ok (by rw [ap1]; omega)
    refine ⟨E1, E2, so, a7, sf7, hso, ?_, ?_, ⟨c3.1, c3.2.1, fun z => z.elim⟩, ⟨d3.1, d3.2.1, fun z => z.elim⟩, d2, ?_, ?_, fun z => c6 (d6 z)⟩
    · rw [ap6, ap7]
      simp only [List.append_assoc, List.cons_append, List.nil_append]
    · have r2 : rlM (cm2 k p v pg (.ok (a, sf, cs, rs))) = rs.length + E1.length := by rw [e2]; show (rs ++ E1).length = _; rw [List.length_append]
      have r3 : rlM (cm3 k p v pg (.ok (a, sf, cs, rs))) = rs.length + E1.length + E2.length := by rw [e6]; show (rs ++ E1 ++ E2).length = _; rw [List.length_append, List.length_append]
      rw [r2, r3]
    · simp only [List.length_append, List.length_cons, List.length_nil]
      omega
    · rw [tks_app]
      exact inc_app _ _ _ _ _ c5 (inc_mo _ _ _ _ _ d5 (by omega) (Nat.le_refl _))
  · cases e2''
theorem set_mid {l r : List Cd} {x y : Cd} : (l ++ x :: r).set l.length y = l ++ y :: r := by
  rw [List.set_append_right _ _ (Nat.le_refl _), Nat.sub_self]
  rfl
theorem if_E (a4 : a ≤ 400) (hl : cs.length ≤ a) (e : ifS k p v pg (.ok (a, sf, cs, rs)) = .ok c) : ∃ x y z a' sf', c = (a', sf', cs ++ (x ++ y ++ [(6, 0), (9, cs.length + x.length + y.length + 3 + z.length)] ++ z ++ [(10, 0)]), rs ++ (x ++ y ++ z)) ∧ ifB k p v pg (.ok (a, sf, cs, rs)) = (1, rs.length, rs.length + x.length, rs.length + x.length + y.length, rs.length + x.length + y.length + z.length) ∧ (xE k v pg (sf' = none) x ∧ xE k v pg (sf' = none) y ∧ xE k v pg (sf' = none) z) ∧ a' ≤ 400 ∧ a + x.length + y.length + 3 + z.length ≤ a' ∧ inc a a' (tks (x ++ y ++ z)) ∧ (sf' = none → sf = none) := by
  have eb : ifB k p v pg (.ok (a, sf, cs, rs)) = (1, rlM (if1 k p (.ok (a, sf, cs, rs))), rlM (if3 k p v pg (.ok (a, sf, cs, rs))), rlM (if6 k p v pg (.ok (a, sf, cs, rs))), rlM (if8 k p v pg (.ok (a, sf, cs, rs)))) := rfl
  rw [eb]
  obtain ⟨a9, sf9, cs9, rs9, e9, w9⟩ := pat_ok e
  obtain ⟨x1, x2, x3, x4, x5, x6, x7, x8⟩ := tk_ok e9
  obtain ⟨aB, sfB, csB, rsB, eB, wB⟩ := pu_ok x5
  have eB' : exS k p v true pg (puS (9, 0) (if6 k p v pg (.ok (a, sf, cs, rs)))) = .ok (aB, sfB, csB, rsB) := eB
  obtain ⟨aA, sfA, csA, rsA, eA⟩ := ex_ok eB'
  obtain ⟨a6, sf6, cs6, rs6, e6, w6⟩ := pu_ok eA
  obtain ⟨a5, sf5, cs5, rs5, e5, w5⟩ := pu_ok (show puS (6, 0) (tkS k p 112 (exS k p v true pg (if3 k p v pg (.ok (a, sf, cs, rs))))) = .ok (a6, sf6, cs6, rs6) from e6)
  obtain ⟨y1, y2, y3, y4, y5, y6, y7, y8⟩ := tk_ok e5
  obtain ⟨a3, sf3, cs3, rs3, e3⟩ := ex_ok y5
  obtain ⟨z1, z2, z3, z4, z5, z6, z7, z8⟩ := tk_ok (show tkS k p 60 (exS k p v true pg (if1 k p (.ok (a, sf, cs, rs)))) = .ok (a3, sf3, cs3, rs3) from e3)
  obtain ⟨a1, sf1, cs1, rs1, e1⟩ := ex_ok z5
  obtain ⟨u1, u2, u3, u4, u5, u6, u7, u8⟩ := tk_ok (show tkS k p 111 (.ok (a, sf, cs, rs)) = .ok (a1, sf1, cs1, rs1) from e1)
  cases u5
  cases u8
  rw [e1] at z5
  obtain ⟨x, ax, sfx, c1, c2, c3, c4, c5, c6⟩ := ex_F (by omega) (by omega) z5
  cases c1
  cases z8
  rw [e3] at y5
  obtain ⟨y, ay, sfy, d1, d2, d3, d4, d5, d6⟩ := ex_F (by omega) (by rw [List.length_append]; omega) y5
  cases d1
  cases y8
  have l5 : ((cs ++ x) ++ y).length + 3 ≤ y1 + 1 := by rw [List.length_append, List.length_append]; omega
  have ap5 : apC ((cs ++ x) ++ y) (6, 0) = ((cs ++ x) ++ y) ++ [(6, 0)] := apC_ok (by omega)
  rw [ap5] at w5
  cases w5
  have ap6 : apC (((cs ++ x) ++ y) ++ [(6, 0)]) (9, 0) = (((cs ++ x) ++ y) ++ [(6, 0)]) ++ [(9, 0)] := apC_ok (by rw [ap1]; omega)
  rw [ap6] at w6
  cases w6
  rw [eA] at eB'
  obtain ⟨z, az, sfz, f1, f2, f3, f4, f5, f6⟩ := ex_F (by omega) (by rw [ap1, ap1]; omega) eB'
  cases f1
  have lB : (((((cs ++ x) ++ y) ++ [(6, 0)]) ++ [(9, 0)]) ++ z).length = cs.length + x.length + y.length + 2 + z.length := by simp only [List.length_append, List.length_cons, List.length_nil]
  have apB : apC (((((cs ++ x) ++ y) ++ [(6, 0)]) ++ [(9, 0)]) ++ z) (10, 0) = (((((cs ++ x) ++ y) ++ [(6, 0)]) ++ [(9, 0)]) ++ z) ++ [(10, 0)] := apC_ok (by rw [lB]; rw [List.length_append, List.length_append] at l5; omega)
  rw [apB] at wB
  cases wB
  cases x8
  have lI : clM (if6 k p v pg (.ok (a, sf, cs, rs))) = (((cs ++ x) ++ y) ++ [(6, 0)]).length := by rw [e6]; rfl
  rw [lI] at w9
  rw [List.length_append, List.length_append] at l5
  have ecs : ((((((cs ++ x) ++ y) ++ [(6, 0)]) ++ [(9, 0)]) ++ z) ++ [(10, 0)]).set (((cs ++ x) ++ y) ++ [(6, 0)]).length (9, ((((((cs ++ x) ++ y) ++ [(6, 0)]) ++ [(9, 0)]) ++ z) ++ [(10, 0)]).length) = cs ++ (x ++ y ++ [(6, 0), (9, cs.length + x.length + y.length + 3 + z.length)] ++ z ++ [(10, 0)]) := by
    have lz : ((((((cs ++ x) ++ y) ++ [(6, 0)]) ++ [(9, 0)]) ++ z) ++ [(10, 0)]).length = cs.length + x.length + y.length + 3 + z.length := by rw [ap1, lB]; omega
    rw [lz]
    have : (((((cs ++ x) ++ y) ++ [(6, 0)]) ++ [(9, 0)]) ++ z) ++ [(10, 0)] = (((cs ++ x) ++ y) ++ [(6, 0)]) ++ (9, 0) :: (z ++ [(10, 0)]) := by simp only [List.append_assoc, List.cons_append, List.nil_append]
    rw [this, set_mid]
    simp only [List.append_assoc, List.cons_append, List.nil_append]
  rw [ecs] at w9
  refine ⟨x, y, z, x1 + 1, sf9, ?_, ?_, ⟨⟨c3.1, c3.2.1, fun q => c3.2.2 ⟨rfl, d6 (f6 q)⟩⟩, ⟨d3.1, d3.2.1, fun q => d3.2.2 ⟨rfl, f6 q⟩⟩, ⟨f3.1, f3.2.1, fun q => f3.2.2 ⟨rfl, q⟩⟩⟩, by omega, by omega, ?_, fun q => c6 (d6 (f6 q))⟩
  · rw [w9]
    simp only [List.append_assoc]
  · have r1 : rlM (if1 k p (.ok (a, sf, cs, rs))) = rs.length := by rw [e1]; rfl
    have r3 : rlM (if3 k p v pg (.ok (a, sf, cs, rs))) = rs.length + x.length := by rw [e3]; show (rs ++ x).length = _; rw [List.length_append]
    have r6 : rlM (if6 k p v pg (.ok (a, sf, cs, rs))) = rs.length + x.length + y.length := by rw [e6]; show (rs ++ x ++ y).length = _; rw [List.length_append, List.length_append]
    have r8 : rlM (if8 k p v pg (.ok (a, sf, cs, rs))) = rs.length + x.length + y.length + z.length := by rw [eB]; show (rs ++ x ++ y ++ z).length = _; rw [List.length_append, List.length_append, List.length_append]
    rw [r1, r3, r6, r8]
  · rw [tks_app, tks_app]
    exact inc_app _ _ _ _ _ (inc_app _ _ _ _ _ (inc_mo _ _ _ _ _ c5 (by omega) (Nat.le_refl _)) (inc_mo _ _ _ _ _ d5 (by omega) (Nat.le_refl _))) (inc_mo _ _ _ _ _ f5 (by omega) (by omega))
end PLW

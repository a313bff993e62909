/-! THE TIE: both sides hold the same text -/
/-- a text that was read, as the other side holds it (side s) -/
def JR (I : Nat → Nat → Int32) (s : Nat) (rz : Nat → Nat) (rs : List Cd) (st : St) : Prop := (I 79 s = nI st.1.length ∧ I 83 s = nI (wcF st.1 st.1.length) ∧ I 84 s = nI st.2.1.length ∧ I 92 s = nI st.2.2.2.2.1 ∧ I 93 s = nI st.2.2.2.2.2.1) ∧ (∀ f, f < st.1.length → I 80 (8 * s + f) = nI (faA st.1 f).2.1 ∧ I 81 (8 * s + f) = nI (faA st.1 f).2.2.1 ∧ I 82 (8 * s + f) = nI (faA st.1 f).2.2.2) ∧ (∀ p, p < st.2.1.length → I 85 (6 * s + p) = nI (pgA st.2.1 p).2.1 ∧ I 86 (6 * s + p) = nI (36 * s + qn st.2.1 p) ∧ I 87 (6 * s + p) = nI (36 * s + qn st.2.1 (p + 1)) ∧ ∀ c, c < (pgA st.2.1 p).2.2.length → I 88 (36 * s + qn st.2.1 p + c) = nI (cmA (pgA st.2.1 p).2.2 c).2.2.2.2 ∧ I 89 (36 * s + qn st.2.1 p + c) = nI (420 * s + (cmA (pgA st.2.1 p).2.2 c).2.1) ∧ I 90 (36 * s + qn st.2.1 p + c) = nI (420 * s + (cmA (pgA st.2.1 p).2.2 c).2.2.1) ∧ I 91 (36 * s + qn st.2.1 p + c) = nI (420 * s + (cmA (pgA st.2.1 p).2.2 c).2.2.2.1)) ∧ (∀ f, f < 8 → I 96 (8 * s + f) = nI (lwX s st.2.2.1 f).1 ∧ I 97 (8 * s + f) = nI (lwX s st.2.2.1 f).2) ∧ (st.2.2.2.1.length ≤ 130 ∧ atB I s 0 st.2.2.2.1) ∧ rs.length ≤ 400 ∧ atR (I 103) (I 104) rz (420 * s) rs
section PTI
variable {B : Nat → Nat} {n s : Nat} {cs rs : List Cd} {F : List Fa} {G : List Pg} {LW : List Lw} {BR : List Br} {sl sd pg a : Nat} {rz : Nat → Nat} {T I J : Nat → Nat → Int32}
theorem atB_app : ∀ (E E' : List Br) (i : Nat), atB I s i (E ++ E') ↔ atB I s i E ∧ atB I s (i + E.length) E' := by
  intro E
  induction E with
  | nil => intro E' i; exact ⟨fun h => ⟨trivial, h⟩, fun h => h.2⟩
  | cons c t ih =>
    intro E' i
    show (_ ∧ atB I s (i + 1) (t ++ E')) ↔ (_ ∧ atB I s (i + 1) t) ∧ atB I s (i + (t.length + 1)) E'
    rw [ih, show i + 1 + t.length = i + (t.length + 1) by omega]
    exact ⟨fun h => ⟨⟨h.1, h.2.1⟩, h.2.2⟩, fun h => ⟨h.1.1, h.1.2, h.2⟩⟩
theorem atB.sg {E : List Br} {i : Nat} (h : atB I s 0 BR) (g : seg BR i E) : atB I s i E := by
  obtain ⟨u, w, e, hu⟩ := g
  rw [e, atB_app, atB_app, hu, Nat.zero_add] at h
  exact h.2.1
def cmO (so : Nat) (o1 o2 : Option Int32) : Option Int32 := match o1 with
  | none => none
  | some x => match o2 with
    | none => none
    | some y => some (aop (nI (6 + so)) x y)
def cmC (so : Nat) (o1 o2 : Option Int32) : Int32 := match o1 with
  | none => 2
  | some x => match o2 with
    | none => 2
    | some y => cmpS so x y
theorem ck_cmp {T : Nat → Nat → Int32} {r : Nat → Int32} {p c so : Nat} {o1 o2 : Option Int32} (hs : so ≤ 2) (e : rnT T r (T 8 (p * 6 + c)) = cmO so o1 o2) : ck T r p c = cmC so o1 o2 := by
  unfold ck
  rw [e]
  cases o1 with
  | none => rfl
  | some x =>
    cases o2 with
    | none => rfl
    | some y =>
      have : so = 0 ∨ so = 1 ∨ so = 2 := by omega
      rcases this with q | q | q <;> subst q
      · show (if (if y ≤ x then (0 : Int32) else 1) = 0 then (0 : Int32) else 1) = if y ≤ x then 0 else 1
        split <;> rfl
      · show (if (if x = y then (1 : Int32) else 0) = 0 then (0 : Int32) else 1) = if x = y then 1 else 0
        split <;> rfl
      · show (if (if x ≤ y then (0 : Int32) else 1) = 0 then (0 : Int32) else 1) = if x ≤ y then 0 else 1
        split <;> rfl
theorem lw_find : ∀ (LW : List Lw) (f : Nat), (lwA LW f = -1 ∧ lwX s LW f = (0, 0)) ∨ ∃ m ∈ LW, m.1 = f ∧ lwA LW f = nI m.2.1 ∧ lwX s LW f = (130 * s + m.2.2.1, 130 * s + m.2.2.2) := by
  intro LW
  induction LW with
  | nil => intro f; exact Or.inl ⟨rfl, rfl⟩
  | cons m t ih =>
    intro f
    obtain ⟨g, i, b, e⟩ := m
    have e1 : lwA ((g, i, b, e) :: t) f = if g = f then nI i else lwA t f := rfl
    have e2 : lwX s ((g, i, b, e) :: t) f = if g = f then (130 * s + b, 130 * s + e) else lwX s t f := rfl
    rw [e1, e2]
    by_cases q : g = f
    · rw [if_pos q, if_pos q]
      exact Or.inr ⟨_, List.mem_cons_self, q, rfl, rfl⟩
    · rw [if_neg q, if_neg q]
      rcases ih f with w | ⟨m, hm, w⟩
      · exact Or.inl w
      · exact Or.inr ⟨m, List.mem_cons_of_mem _ hm, w⟩
theorem JR.tie (j : JR I s rz rs (F, G, LW, BR, sl, sd, pg)) (x : TX T rz cs (F, G, LW, BR, sl, sd, pg)) (P : PI (kS B n) (vS B n) (a, none, cs, rs) (F, G, LW, BR, sl, sd, pg)) (hr : ∀ j, rz j < 14) (hs : s < 2) : Tie T I s := by
  have G6 : G.length ≤ 6 := P.2.2.1.1
  have F8 : F.length ≤ 8 := P.2.1.1
  have hg : ∀ p, p < G.length → (1 ≤ (pgA G p).2.2.length ∧ (pgA G p).2.2.length ≤ 6 ∧ (pgA G p).2.1 ≤ 2) ∧ ∀ c, c < (pgA G p).2.2.length → clP (kS B n) (vS B n) p cs rs (cmA (pgA G p).2.2 c) := P.2.2.1.2
  have hf : ∀ f, f < F.length → 1 ≤ (faA F f).2.1 ∧ (faA F f).2.1 ≤ 3 ∧ (faA F f).2.2.1 ≤ (faA F f).2.1 ∧ wcF F (f + 1) = wcF F f * ((faA F f).2.1 + 1) := P.2.1.2.2 rfl
  have hw2 : ∀ f, f < F.length → (faA F f).2.2.2 ≤ 2 := P.2.1.2.1
  have hlw : ∀ m ∈ LW, lwP (kS B n) (vS B n) none F.length cs rs BR m := P.2.2.2.1
  have x0 := x
  obtain ⟨⟨x1, x2, x3⟩, ⟨y0, y6, y4, y5, y1, y7⟩, ⟨z1, z2, z3⟩, l4, ⟨o2, o3⟩, s7, s8⟩ := x
  have y0 : T 0 0 = nI F.length := y0
  have y6 : T 0 6 = nI (wcF F F.length) := y6
  have y4 : T 0 4 = whB F 1 := y4
  have y5 : T 0 5 = whB F 2 := y5
  have y7 : ∀ f, f < F.length → T 1 f = nI (cl13 (faA F f).2.1) ∧ T 2 f = nI (faA F f).2.2.1 ∧ T 3 f = nI (wcF F f) := y7
  have z1 : T 0 1 = nI G.length := z1
  have z3 : ∀ p, p < G.length → T 5 p = nI (pgA G p).2.1 ∧ T 6 p = nI (pgA G p).2.2.length ∧ ∀ c, c < (pgA G p).2.2.length → T 8 (p * 6 + c) = nI (cmA (pgA G p).2.2 c).1 := z3
  have l4 : ∀ f, f < 8 → T 4 f = lwA LW f := l4
  have o2 : T 0 2 = nI sl := o2
  have o3 : T 0 3 = nI sd := o3
  have n0 : tn (T 0 0) = F.length := by rw [y0, tn_nI (by omega)]
  have n1 : tn (T 0 1) = G.length := by rw [z1, tn_nI (by omega)]
  obtain ⟨⟨j79, j83, j84, j92, j93⟩, jf, jp, jl, ⟨jb0, jb⟩, jr0, jr⟩ := j
  have j79 : I 79 s = nI F.length := j79
  have j83 : I 83 s = nI (wcF F F.length) := j83
  have j84 : I 84 s = nI G.length := j84
  have j92 : I 92 s = nI sl := j92
  have j93 : I 93 s = nI sd := j93
  have jf : ∀ f, f < F.length → I 80 (8 * s + f) = nI (faA F f).2.1 ∧ I 81 (8 * s + f) = nI (faA F f).2.2.1 ∧ I 82 (8 * s + f) = nI (faA F f).2.2.2 := jf
  have jp : ∀ p, p < G.length → I 85 (6 * s + p) = nI (pgA G p).2.1 ∧ I 86 (6 * s + p) = nI (36 * s + qn G p) ∧ I 87 (6 * s + p) = nI (36 * s + qn G (p + 1)) ∧ ∀ c, c < (pgA G p).2.2.length → I 88 (36 * s + qn G p + c) = nI (cmA (pgA G p).2.2 c).2.2.2.2 ∧ I 89 (36 * s + qn G p + c) = nI (420 * s + (cmA (pgA G p).2.2 c).2.1) ∧ I 90 (36 * s + qn G p + c) = nI (420 * s + (cmA (pgA G p).2.2 c).2.2.1) ∧ I 91 (36 * s + qn G p + c) = nI (420 * s + (cmA (pgA G p).2.2 c).2.2.2.1) := jp
  have jl : ∀ f, f < 8 → I 96 (8 * s + f) = nI (lwX s LW f).1 ∧ I 97 (8 * s + f) = nI (lwX s LW f).2 := jl
  have jb0 : BR.length ≤ 130 := jb0
  have jb : atB I s 0 BR := jb
  refine ⟨hs, ⟨by rw [j79, y0], by rw [j83, y6], by rw [j84, z1], by rw [j92, o2], by rw [j93, o3]⟩, fun f h1 => ?_, fun p h1 => ?_⟩
  · rw [n0] at h1
    obtain ⟨i80, i81, i82⟩ := jf f h1
    have hf1 := hf f h1
    have ec : cl13 (faA F f).2.1 = (faA F f).2.1 := by unfold cl13; rw [if_neg (by omega)]; split <;> omega
    have e1 := (y7 f h1).1
    rw [ec] at e1
    have gw : ∀ w, (whB F w >>> (nI f &&& 31)) &&& 1 = if (faA F f).2.2.2 = w then 1 else 0 := by
      intro w
      have g := gb_wh (F := F) (w := w) (f := f) F8 (by omega)
      rw [decide_eq_true h1, Bool.true_and] at g
      by_cases q : (faA F f).2.2.2 = w
      · rw [if_pos q]
        rw [decide_eq_true q] at g
        exact (bit_get (by omega)).mpr g
      · rw [if_neg q]
        rw [decide_eq_false q] at g
        exact (bit_z (by omega)).mpr g
    refine ⟨by rw [i80, e1], by rw [i81, (y7 f h1).2.1], ⟨_, hw2 f h1, i82, by rw [y4]; exact gw 1, by rw [y5]; exact gw 2⟩, ?_⟩
    obtain ⟨i96, i97⟩ := jl f (by omega)
    have e4 := l4 f (by omega)
    rcases lw_find (s := s) LW f with ⟨w1, w2⟩ | ⟨m, hm, w1, w2, w3⟩
    · rw [w2] at i96 i97
      refine ⟨0, 0, i96, i97, by decide, fun j hj => absurd hj (Nat.not_lt_zero _), fun r v _ => ?_⟩
      rw [e4, w1]
      unfold rnT
      rw [if_pos (by decide)]
      rfl
    · rw [w3] at i96 i97
      obtain ⟨m1, L, E, r0, pg', q1, q2, q3, q4, q5, q6⟩ := hlw m hm
      have l3 := q3.le
      rw [List.length_append] at l3
      have l3 : m.2.2.1 + ((brI L r0).length + 1) ≤ BR.length := l3
      have l2 := q2.le
      rw [List.length_append] at l2
      have l1 := q1.le
      simp only [List.length_append, List.length_cons, List.length_nil] at l1
      have gx : ∀ (r v : Nat → Int32), vOk v r → gE rz v r E ∧ ∀ t ∈ L, gE rz v r t.1 ∧ gE rz v r t.2.1 ∧ gE rz v r t.2.2 := fun r v hv => ⟨q6.g hr hv (Or.inl rfl), fun t ht => ⟨(q5 t ht).1.g hr hv (Or.inl rfl), (q5 t ht).2.1.g hr hv (Or.inl rfl), (q5 t ht).2.2.g hr hv (Or.inl rfl)⟩⟩
      have lx : ∀ (r v : Nat → Int32), vOk v r → lw I v ((brI L r0).length + 1) (130 * s + m.2.2.1) = lwE rz r L E ∧ ∀ j, j < (brI L r0).length + 1 → brOk I (130 * s + m.2.2.1 + j) := fun r v hv => lw_x (I := I) (s := s) hs (gx r v hv).1 L m.2.2.1 r0 (gx r v hv).2 (jb.sg q3) (jr.sg q2) (by omega)
      refine ⟨130 * s + m.2.2.1, (brI L r0).length + 1, i96, by rw [i97]; show nI (130 * s + m.2.2.2) = _; rw [q4]; congr 1; omega, by omega, (lx (fun _ => 0) (fun _ => 0) ⟨fun _ _ => rfl, rfl⟩).2, fun r v hv => ?_⟩
      rw [(lx r v hv).1, e4, w2]
      unfold rnT
      rw [if_neg (nI_pos (by omega)), x2, tn_nI (by omega), tn_nI (by omega)]
      exact (rn_lw (by omega) (gx r v hv).1 L m.2.1 _ (gx r v hv).2 (x3.sg q1) (by omega) (by omega)).symm
  · rw [n1] at h1
    obtain ⟨i85, i86, i87, ic⟩ := jp p h1
    obtain ⟨t5, t6, t8⟩ := z3 p h1
    obtain ⟨⟨c1, c6, _⟩, cl⟩ := hg p h1
    have q6 := qn_le (G := G) (fun p hp => (hg p hp).1.2.1) p (by omega)
    have eq1 : qn G (p + 1) = qn G p + (pgA G p).2.2.length := rfl
    refine ⟨by rw [i85, t5], 36 * s + qn G p, (pgA G p).2.2.length, i86, by rw [i87, eq1, Nat.add_assoc], by omega, c1, c6, t6, fun c hc => ?_⟩
    obtain ⟨i88, i89, i90, i91⟩ := ic c hc
    obtain ⟨E1, E2, so, h1', h2, h3, h4, h5, h6⟩ := cl c hc
    generalize hm : cmA (pgA G p).2.2 c = m at i88 i89 i90 i91 h2 h3 h4
    obtain ⟨mi, mr, m2, m3, ms⟩ := m
    have h2 : (m2, m3, ms) = (mr + E1.length, mr + E1.length + E2.length, so) := h2
    cases h2
    have i88 : I 88 (36 * s + qn G p + c) = nI so := i88
    have i89 : I 89 (36 * s + qn G p + c) = nI (420 * s + mr) := i89
    have i90 : I 90 (36 * s + qn G p + c) = nI (420 * s + (mr + E1.length)) := i90
    have i91 : I 91 (36 * s + qn G p + c) = nI (420 * s + (mr + E1.length + E2.length)) := i91
    have h4 : seg rs mr (E1 ++ E2) := h4
    have h3 : seg cs mi (E1 ++ E2 ++ [(6 + so, 0), (10, 0)]) := h3
    have l4 := h4.le
    rw [List.length_append] at l4
    have ar := jr.sg h4
    have ar' := ar
    rw [atR_app] at ar'
    rw [show 420 * s + (mr + E1.length) = 420 * s + mr + E1.length by omega] at i90
    rw [show 420 * s + (mr + E1.length + E2.length) = 420 * s + mr + E1.length + E2.length by omega] at i91
    have gs : ∀ (r v : Nat → Int32), vOk v r → v 14 = r (8 + p) → gE rz v r E1 ∧ gE rz v r E2 := fun r v hv h14 => ⟨h5.g hr hv (Or.inr h14), h6.g hr hv (Or.inr h14)⟩
    have g0 := gs (fun _ => 0) (fun _ => 0) ⟨fun _ _ => rfl, rfl⟩ rfl
    refine ⟨_, _, _, so, i89, i90, i91, i88, h1', tmOk_x g0.1 ar'.1 (by omega) (by omega), tmOk_x g0.2 ar'.2 (by omega) (by omega), fun r v hv h14 => ?_⟩
    obtain ⟨g1, g2⟩ := gs r v hv h14
    have h3' : seg cs (cmA (pgA G p).2.2 c).1 (E1 ++ E2 ++ [(6 + so, 0), (10, 0)]) := by rw [hm]; exact h3
    rw [cl_x g1 g2 ar]
    exact (ck_cmp h1' (ck_rn x0 h1 hc h1' h3' g1 g2)).symm
end PTI

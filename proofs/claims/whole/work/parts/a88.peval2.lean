/-! WHAT CLAIMS AND LAWS ARE WORTH, the same on both sides -/
def lwE (rz : Nat → Nat) (r : Nat → Int32) : List E3 → List Cd → Option Int32
  | [], E => ev1 rz r E
  | (x, y, z) :: t, E => match ev1 rz r x with
    | none => none
    | some a => match ev1 rz r y with
      | none => none
      | some b => if b ≤ a then lwE rz r t E else ev1 rz r z
def bq (I : Nat → Nat → Int32) (s i : Nat) (b : Br) : Prop := I 98 (130 * s + i) = nI b.1 ∧ (b.1 = 1 → I 99 (130 * s + i) = nI (420 * s + b.2.1) ∧ I 100 (130 * s + i) = nI (420 * s + b.2.2.1)) ∧ I 101 (130 * s + i) = nI (420 * s + b.2.2.2.1) ∧ I 102 (130 * s + i) = nI (420 * s + b.2.2.2.2)
def atB (I : Nat → Nat → Int32) (s : Nat) : Nat → List Br → Prop
  | _, [] => True
  | i, b :: t => bq I s i b ∧ atB I s (i + 1) t
/-- an expression whose codes both sides look up alike -/
def gE (rz : Nat → Nat) (v r : Nat → Int32) (E : List Cd) : Prop := dW E 0 1 ∧ ∀ x ∈ E, cOk2 x ∧ (pv x = true → x.1 ≠ 0 → v (rvz rz x) = r (vz rz x)) ∧ rvz rz x < 2 ^ 31 ∧ (pv x = true → x.1 ≠ 0 → rvz rz x < 16)
section EV2
variable {cd v r : Nat → Int32} {rz : Nat → Nat} {len : Nat} {I : Nat → Nat → Int32} {s : Nat} {B : Nat → Nat} {n : Nat}
theorem xE.g {P : Prop} {p : Nat} {E : List Cd} (h : xE (kS B n) (vS B n) p P E) (hr : ∀ j, rz j < 14) (hv : vOk v r) (h14 : P ∨ v 14 = r (8 + p)) : gE rz v r E := by
  refine ⟨h.1, fun x hx => ?_⟩
  obtain ⟨c1, c2⟩ := x
  have hx12 := fun q => h.2.2 q _ hx
  rcases h.2.1 _ hx with ⟨q, j, hj, e⟩ | ⟨q, e⟩ | ⟨q, e⟩ | ⟨q, e⟩ | ⟨q, e, e0⟩
  · have q : c1 = 0 := q
    have e : c2 = vS B n j := e
    subst q
    have := vS_lt hj
    have rv : rvz rz (0, c2) = c2 := rfl
    exact ⟨Or.inl ⟨rfl, fun _ => by rw [show ((0, c2) : Cd).2 = c2 from rfl]; omega⟩, fun _ z => absurd rfl z, by rw [rv]; omega, fun _ z => absurd rfl z⟩
  · have q : c1 = 1 := q
    have e : c2 = 14 := e
    subst q e
    exact ⟨Or.inl ⟨rfl, fun z => (by cases z)⟩, fun _ _ => hv.2, by show 15 < 2 ^ 31; decide, fun _ _ => by show 15 < 16; decide⟩
  · have q : c1 = 11 := q
    subst q
    have rv : rvz rz (11, c2) = rz c2 := rfl
    have := hr c2
    exact ⟨Or.inl ⟨rfl, fun z => (by cases z)⟩, fun _ _ => hv.1 _ this, by rw [rv]; omega, fun _ _ => by rw [rv]; omega⟩
  · have q : c1 = 12 := q
    have e : c2 = 8 + p := e
    subst q e
    refine ⟨Or.inl ⟨rfl, fun z => (by cases z)⟩, fun _ _ => ?_, by show 14 < 2 ^ 31; decide, fun _ _ => by show 14 < 16; decide⟩
    rcases h14 with z | z
    · exact absurd rfl (hx12 z)
    · exact z
  · have q : 2 ≤ c1 := q
    have e : c1 ≤ 5 := e
    have e0 : c2 = 0 := e0
    have np : pv (c1, c2) = false := dW_op ⟨q, show c1 ≤ 10 by omega⟩
    have rv : rvz rz (c1, c2) = 0 := by
      unfold rvz rcV
      rw [if_neg (show ¬ c1 = 11 by omega), if_neg (show ¬ c1 = 0 by omega), if_neg (show ¬ c1 = 1 by omega), if_neg (show ¬ c1 = 12 by omega)]
    exact ⟨Or.inr ⟨q, e, e0⟩, fun z => absurd z (by rw [np]; decide), by rw [rv]; decide, fun z => absurd z (by rw [np]; decide)⟩
theorem gE.c {E : List Cd} (h : gE rz v r E) : ∀ x ∈ E, cOk2 x := fun x hx => (h.2 x hx).1
theorem rn_x {E : List Cd} {i f : Nat} {st : List Int32} (h5 : len ≤ 512) (g : gE rz v r E) (ha : atE cd rz i E) (hl : st.length ≤ 11) (hL : i + E.length ≤ len) : rn cd len r (f + E.length) i st = match ev1 rz r E with
    | none => none
    | some x => rn cd len r f (i + E.length) (x :: st) := rn_1 h5 ha g.1 g.c hl hL
theorem rn_op2 {f i w : Nat} {b a : Int32} {s : List Int32} (h5 : len ≤ 512) (e : cd i = nI (wz rz (w, 0)) ∧ wz rz (w, 0) < 2 ^ 20) (h1 : 6 ≤ w) (h2 : w ≤ 8) (hl : i < len) : rn cd len r (f + 1) i (b :: a :: s) = rn cd len r f (i + 1) (aop (nI w) a b :: s) := by
  obtain ⟨w1, w2⟩ := wz_op (rz := rz) (c := (w, 0)) ⟨show 2 ≤ w by omega, show w ≤ 10 by omega⟩ (fun _ => rfl)
  have w1 : wz rz (w, 0) % 16 = w := w1
  rw [rn_big h5 e.1 e.2 (by omega) hl, w1, if_neg (by omega), if_neg (by omega)]
  dsimp only
  rw [if_neg (fun z => by omega)]
theorem rn_st {f i : Nat} {b : Int32} {s : List Int32} (h5 : len ≤ 512) (e : cd i = nI (wz rz (10, 0)) ∧ wz rz (10, 0) < 2 ^ 20) (hl : i < len) : rn cd len r (f + 1) i (b :: s) = some b := by
  obtain ⟨w1, w2⟩ := wz_op (rz := rz) (c := (10, 0)) ⟨by decide, by decide⟩ (fun _ => rfl)
  have w1 : wz rz (10, 0) % 16 = 10 := w1
  rw [rn_big h5 e.1 e.2 (by omega) hl, w1, if_pos rfl]
theorem rn_cl {E1 E2 : List Cd} {so i f : Nat} (h5 : len ≤ 512) (ha : atE cd rz i (E1 ++ E2 ++ [(6 + so, 0), (10, 0)])) (hs : so ≤ 2) (g1 : gE rz v r E1) (g2 : gE rz v r E2) (hL : i + (E1.length + E2.length + 2) ≤ len) (hf : len < f + i) : rn cd len r f i [] = match ev1 rz r E1 with
    | none => none
    | some x => match ev1 rz r E2 with
      | none => none
      | some y => some (aop (nI (6 + so)) x y) := by
  obtain ⟨g, hg⟩ : ∃ g, f = ((g + 1 + 1) + E2.length) + E1.length := ⟨f - E1.length - E2.length - 2, by omega⟩
  rw [atE_app, atE_app] at ha
  obtain ⟨⟨a1, a2⟩, a3, a4, _⟩ := ha
  rw [List.length_append] at a3 a4
  rw [hg, rn_x h5 g1 a1 (Nat.zero_le _) (by omega)]
  cases h1 : ev1 rz r E1 with
  | none => rfl
  | some x =>
    dsimp only
    rw [rn_x h5 g2 a2 (by show 0 + 1 ≤ 11; decide) (by omega)]
    cases h2 : ev1 rz r E2 with
    | none => rfl
    | some y =>
      dsimp only
      rw [show i + E1.length + E2.length = i + (E1.length + E2.length) by omega, rn_op2 h5 a3 (by omega) (by omega) (by omega), rn_st h5 a4 (by omega)]
theorem rn_lw {E : List Cd} (h5 : len ≤ 512) (gx : gE rz v r E) : ∀ (L : List E3) (i f : Nat), (∀ t ∈ L, gE rz v r t.1 ∧ gE rz v r t.2.1 ∧ gE rz v r t.2.2) → atE cd rz i (lcI L i ++ E ++ [(10, 0)]) → i + ((lcI L i).length + E.length + 1) ≤ len → len < f + i → rn cd len r f i [] = lwE rz r L E := by
  intro L
  induction L with
  | nil =>
    intro i f _ ha hL hf
    have ha : atE cd rz i (E ++ [(10, 0)]) := ha
    have hL : i + (0 + E.length + 1) ≤ len := hL
    rw [atE_app] at ha
    obtain ⟨a1, a2, _⟩ := ha
    obtain ⟨g, hg⟩ : ∃ g, f = (g + 1) + E.length := ⟨f - E.length - 1, by omega⟩
    rw [hg, rn_x h5 gx a1 (Nat.zero_le _) (by omega)]
    show _ = ev1 rz r E
    cases h1 : ev1 rz r E with
    | none => rfl
    | some x =>
      dsimp only
      rw [rn_st h5 a2 (by omega)]
  | cons t L ih =>
    intro i f hg ha hL hf
    obtain ⟨x, y, z⟩ := t
    obtain ⟨gx1, gy, gz⟩ := hg _ List.mem_cons_self
    have gx1 : gE rz v r x := gx1
    have gy : gE rz v r y := gy
    have gz : gE rz v r z := gz
    have el : lcI ((x, y, z) :: L) i = (x ++ y ++ [(6, 0), (9, i + x.length + y.length + 3 + z.length)] ++ z ++ [(10, 0)]) ++ lcI L (i + x.length + y.length + 3 + z.length) := rfl
    rw [el] at ha hL
    have e1 : (x ++ y ++ [(6, 0), (9, i + x.length + y.length + 3 + z.length)] ++ z ++ [(10, 0)]) ++ lcI L (i + x.length + y.length + 3 + z.length) ++ E ++ [(10, 0)] = x ++ (y ++ ([(6, 0), (9, i + x.length + y.length + 3 + z.length)] ++ (z ++ ([(10, 0)] ++ (lcI L (i + x.length + y.length + 3 + z.length) ++ E ++ [(10, 0)]))))) := by simp only [List.append_assoc]
    rw [e1, atE_app, atE_app, atE_app, atE_app, atE_app] at ha
    simp only [List.length_append, List.length_cons, List.length_nil] at ha hL
    obtain ⟨a1, a2, ⟨a3, a4, _⟩, a5, ⟨a6, _⟩, a7⟩ := ha
    obtain ⟨g, hg2⟩ : ∃ g, f = ((g + 1 + 1) + y.length) + x.length := ⟨f - x.length - y.length - 2, by omega⟩
    rw [hg2, rn_x h5 gx1 a1 (Nat.zero_le _) (by omega)]
    have ew : lwE rz r ((x, y, z) :: L) E = match ev1 rz r x with
      | none => none
      | some a => match ev1 rz r y with
        | none => none
        | some b => if b ≤ a then lwE rz r L E else ev1 rz r z := rfl
    rw [ew]
    cases h1 : ev1 rz r x with
    | none => rfl
    | some p =>
      dsimp only
      rw [rn_x h5 gy a2 (by show 0 + 1 ≤ 11; decide) (by omega)]
      cases h2 : ev1 rz r y with
      | none => rfl
      | some q =>
        dsimp only
        rw [rn_op2 h5 a3 (by decide) (by decide) (by omega)]
        have ea : aop (nI 6) p q = if q ≤ p then 0 else 1 := rfl
        rw [ea]
        obtain ⟨w1, w2⟩ := wz_op (rz := rz) (c := (9, i + x.length + y.length + 3 + z.length)) ⟨show 2 ≤ 9 by decide, show 9 ≤ 10 by decide⟩ (fun z => absurd rfl z)
        have w1 : wz rz (9, i + x.length + y.length + 3 + z.length) % 16 = 9 := w1
        have w2 : wz rz (9, i + x.length + y.length + 3 + z.length) / 16 = i + x.length + y.length + 3 + z.length := w2
        rw [rn_big h5 a4.1 a4.2 (by omega) (by omega), w1, w2, if_neg (by decide), if_pos rfl]
        by_cases hc : q ≤ p
        · rw [if_pos hc, if_pos hc, if_pos ⟨rfl, by omega⟩]
          refine ih _ _ (fun t ht => hg t (List.mem_cons_of_mem _ ht)) ?_ (by omega) (by omega)
          rw [show i + x.length + y.length + 3 + z.length = i + x.length + y.length + (0 + 1 + 1) + z.length + (0 + 1) by omega] at a7 ⊢
          exact a7
        · rw [if_neg hc, if_neg hc, if_neg (fun z => absurd z.1 (by decide))]
          obtain ⟨g', hg3⟩ : ∃ g', g = (g' + 1) + z.length := ⟨g - z.length - 1, by omega⟩
          rw [hg3, rn_x h5 gz (by rw [show i + x.length + y.length + 1 + 1 = i + x.length + y.length + (0 + 1 + 1) by omega]; exact a5) (Nat.zero_le _) (by omega)]
          cases h3 : ev1 rz r z with
          | none => rfl
          | some u =>
            dsimp only
            rw [show i + x.length + y.length + 1 + 1 + z.length = i + x.length + y.length + (0 + 1 + 1) + z.length by omega, rn_st h5 a6 (by omega)]
theorem tm_x {E : List Cd} {i : Nat} (g : gE rz v r E) (ha : atR (I 103) (I 104) rz i E) : tmV I v i (i + E.length) = match ev1 rz r E with
    | none => none
    | some x => some [x] := by
  unfold tmV
  rw [Nat.add_sub_cancel_left, tm_E (r := r) E i 0 1 [] ha g.1 (fun x hx => ⟨(g.2 x hx).1, (g.2 x hx).2.1, (g.2 x hx).2.2.1⟩) rfl, ev_one g.1]
  cases ev1 rz r E with
  | none => rfl
  | some x => rfl
theorem tmOk_x {E : List Cd} {i : Nat} (g : gE rz v r E) (ha : atR (I 103) (I 104) rz i E) (h1 : i + E.length ≤ 840) (h2 : E.length ≤ 400) : tmOk I i (i + E.length) := by
  refine ⟨by omega, h1, by omega, ?_⟩
  rw [Nat.add_sub_cancel_left]
  exact tmW_E E i 0 ha g.1 (fun x hx => (g.2 x hx).2.2.2)
theorem cl_x {E1 E2 : List Cd} {so i : Nat} (g1 : gE rz v r E1) (g2 : gE rz v r E2) (ha : atR (I 103) (I 104) rz i (E1 ++ E2)) : cl2 I v i (i + E1.length) (i + E1.length + E2.length) so = match ev1 rz r E1 with
    | none => 2
    | some x => match ev1 rz r E2 with
      | none => 2
      | some y => cmpS so x y := by
  rw [atR_app] at ha
  unfold cl2
  rw [tm_x g1 ha.1, tm_x g2 ha.2]
  cases ev1 rz r E1 with
  | none => rfl
  | some x =>
    dsimp only
    cases ev1 rz r E2 with
    | none => rfl
    | some y => rfl
theorem hd1_x {o : Option Int32} : hd1 (match o with
    | none => none
    | some x => some [x]) = o := by
  cases o <;> rfl
theorem lw_x {E : List Cd} (hs : s < 2) (gx : gE rz v r E) : ∀ (L : List E3) (b r0 : Nat), (∀ t ∈ L, gE rz v r t.1 ∧ gE rz v r t.2.1 ∧ gE rz v r t.2.2) → atB I s b (brI L r0 ++ [(0, 0, 0, r0 + (rcI L).length, r0 + (rcI L).length + E.length)]) → atR (I 103) (I 104) rz (420 * s + r0) (rcI L ++ E) → r0 + ((rcI L).length + E.length) ≤ 400 →
    lw I v ((brI L r0).length + 1) (130 * s + b) = lwE rz r L E ∧ ∀ j, j < (brI L r0).length + 1 → brOk I (130 * s + b + j) := by
  intro L
  induction L with
  | nil =>
    intro b r0 _ hb hr hl
    have hb : atB I s b [(0, 0, 0, r0 + 0, r0 + 0 + E.length)] := hb
    have hr : atR (I 103) (I 104) rz (420 * s + r0) E := hr
    have hl : r0 + (0 + E.length) ≤ 400 := hl
    obtain ⟨⟨b1, b2, b3, b4⟩, _⟩ := hb
    have b1 : I 98 (130 * s + b) = nI 0 := b1
    have b3 : I 101 (130 * s + b) = nI (420 * s + r0) := b3
    have b4 : I 102 (130 * s + b) = nI (420 * s + (r0 + E.length)) := b4
    refine ⟨?_, fun j hj => ?_⟩
    · show (if I 98 (130 * s + b) = nI 0 then hd1 (tmV I v (tn (I 101 (130 * s + b))) (tn (I 102 (130 * s + b)))) else _) = ev1 rz r E
      rw [if_pos b1, b3, b4, tn_nI (by omega), tn_nI (by omega), ← Nat.add_assoc, tm_x gx hr]
      exact hd1_x
    · have hj : j < 0 + 1 := hj
      have : j = 0 := by omega
      subst this
      refine ⟨_, _, b3, b4, ?_, Or.inl b1⟩
      rw [← Nat.add_assoc]
      exact tmOk_x gx hr (by omega) (by omega)
  | cons t L ih =>
    intro b r0 hg hb hr hl
    obtain ⟨x, y, z⟩ := t
    obtain ⟨gx1, gy, gz⟩ := hg _ List.mem_cons_self
    have gx1 : gE rz v r x := gx1
    have gy : gE rz v r y := gy
    have gz : gE rz v r z := gz
    have hb : bq I s b (1, r0, r0 + x.length, r0 + x.length + y.length, r0 + x.length + y.length + z.length) ∧ atB I s (b + 1) (brI L (r0 + x.length + y.length + z.length) ++ [(0, 0, 0, r0 + ((x ++ y ++ z) ++ rcI L).length, r0 + ((x ++ y ++ z) ++ rcI L).length + E.length)]) := hb
    have hr : atR (I 103) (I 104) rz (420 * s + r0) ((x ++ y ++ z) ++ rcI L ++ E) := hr
    have hl : r0 + (((x ++ y ++ z) ++ rcI L).length + E.length) ≤ 400 := hl
    have e1 : (x ++ y ++ z) ++ rcI L ++ E = x ++ (y ++ (z ++ (rcI L ++ E))) := by simp only [List.append_assoc]
    rw [e1, atR_app, atR_app, atR_app] at hr
    obtain ⟨r1, r2, r3, r4⟩ := hr
    obtain ⟨⟨b1, b2, b3, b4⟩, b5⟩ := hb
    have b1 : I 98 (130 * s + b) = nI 1 := b1
    obtain ⟨b21, b22⟩ := b2 rfl
    have b21 : I 99 (130 * s + b) = nI (420 * s + r0) := b21
    have b22 : I 100 (130 * s + b) = nI (420 * s + (r0 + x.length)) := b22
    have b3 : I 101 (130 * s + b) = nI (420 * s + (r0 + x.length + y.length)) := b3
    have b4 : I 102 (130 * s + b) = nI (420 * s + (r0 + x.length + y.length + z.length)) := b4
    simp only [List.length_append] at hl b5
    have i1 := ih (b + 1) (r0 + x.length + y.length + z.length) (fun t ht => hg t (List.mem_cons_of_mem _ ht)) (by
        rw [show r0 + x.length + y.length + z.length + (rcI L).length = r0 + (x.length + y.length + z.length + (rcI L).length) by omega]
        exact b5) (by
        rw [show 420 * s + (r0 + x.length + y.length + z.length) = 420 * s + r0 + x.length + y.length + z.length by omega]
        exact r4) (by omega)
    have a1 : 420 * s + (r0 + x.length) = 420 * s + r0 + x.length := by omega
    have a2 : 420 * s + (r0 + x.length + y.length) = 420 * s + r0 + x.length + y.length := by omega
    have a3 : 420 * s + (r0 + x.length + y.length + z.length) = 420 * s + r0 + x.length + y.length + z.length := by omega
    rw [a1] at b22
    rw [a2] at b3
    rw [a3] at b4
    refine ⟨?_, fun j hj => ?_⟩
    · show (if I 98 (130 * s + b) = nI 0 then hd1 (tmV I v (tn (I 101 (130 * s + b))) (tn (I 102 (130 * s + b)))) else
        match tmV I v (tn (I 99 (130 * s + b))) (tn (I 100 (130 * s + b))) with
        | some (p :: _) => match tmV I v (tn (I 100 (130 * s + b))) (tn (I 101 (130 * s + b))) with
          | some (q :: _) => if q ≤ p then lw I v ((brI L (r0 + x.length + y.length + z.length)).length + 1) (130 * s + b + 1) else hd1 (tmV I v (tn (I 101 (130 * s + b))) (tn (I 102 (130 * s + b))))
          | _ => none
        | _ => none) = match ev1 rz r x with
          | none => none
          | some a => match ev1 rz r y with
            | none => none
            | some b => if b ≤ a then lwE rz r L E else ev1 rz r z
      rw [if_neg (by rw [b1]; decide), b21, b22, b3, b4, tn_nI (by omega), tn_nI (by omega), tn_nI (by omega), tn_nI (by omega), tm_x gx1 r1, tm_x gy r2, tm_x gz r3, hd1_x]
      cases ev1 rz r x with
      | none => rfl
      | some p =>
        dsimp only
        cases ev1 rz r y with
        | none => rfl
        | some q =>
          dsimp only
          rw [show 130 * s + b + 1 = 130 * s + (b + 1) by omega, i1.1]
    · cases j with
      | zero =>
        refine ⟨_, _, b3, b4, tmOk_x gz r3 (by omega) (by omega), Or.inr ⟨b1, _, _, b21, b22, tmOk_x gx1 r1 (by omega) (by omega), tmOk_x gy r2 (by omega) (by omega)⟩⟩
      | succ j =>
        have hj : j + 1 < (brI L (r0 + x.length + y.length + z.length)).length + 1 + 1 := hj
        have := i1.2 j (by omega)
        rw [show 130 * s + b + (j + 1) = 130 * s + (b + 1) + j by omega]
        exact this
end EV2

/-! READING: what stands after each statement, on both sides -/
def seg {α : Type} (l : List α) (i : Nat) (E : List α) : Prop := ∃ u w, l = u ++ (E ++ w) ∧ u.length = i
theorem seg.ap {α : Type} {l E : List α} {i : Nat} (s : seg l i E) (t : List α) : seg (l ++ t) i E := by
  obtain ⟨u, w, e, hu⟩ := s
  exact ⟨u, w ++ t, by rw [e]; simp only [List.append_assoc], hu⟩
theorem seg.mid {α : Type} {l E w : List α} : seg (l ++ (E ++ w)) l.length E := ⟨l, w, rfl, rfl⟩
theorem seg.last {α : Type} {l E : List α} : seg (l ++ E) l.length E := ⟨l, [], by rw [List.append_nil], rfl⟩
def okR (k v : Nat → Nat) (x : Cd) : Prop := ∃ pg, pg ≤ 6 ∧ cOkE k v pg x
def okC (k v : Nat → Nat) (x : Cd) : Prop := okR k v x ∨ (6 ≤ x.1 ∧ x.1 ≤ 10 ∧ x.2 ≤ 512)
def cP (k v : Nat → Nat) (a : Nat) (cs rs : List Cd) : Prop := cs.length ≤ a ∧ a ≤ 400 ∧ tks cs = tks rs ∧ inc 0 a (tks rs) ∧ (∀ x ∈ cs, okC k v x) ∧ ∀ x ∈ rs, okR k v x
def fP (sf : Option (Nat × Nat)) (F : List Fa) : Prop := F.length ≤ 8 ∧ (∀ f, f < F.length → (faA F f).2.2.2 ≤ 2) ∧ (sf = none → ∀ f, f < F.length → 1 ≤ (faA F f).2.1 ∧ (faA F f).2.1 ≤ 3 ∧ (faA F f).2.2.1 ≤ (faA F f).2.1 ∧ wcF F (f + 1) = wcF F f * ((faA F f).2.1 + 1))
def clP (k v : Nat → Nat) (p : Nat) (cs rs : List Cd) (m : Cm) : Prop := ∃ E1 E2 so, so ≤ 2 ∧ m.2.2 = (m.2.1 + E1.length, m.2.1 + E1.length + E2.length, so) ∧ seg cs m.1 (E1 ++ E2 ++ [(6 + so, 0), (10, 0)]) ∧ seg rs m.2.1 (E1 ++ E2) ∧ xE k v p False E1 ∧ xE k v p False E2
def gP (k v : Nat → Nat) (cs rs : List Cd) (G : List Pg) : Prop := G.length ≤ 6 ∧ ∀ p, p < G.length → (1 ≤ (pgA G p).2.2.length ∧ (pgA G p).2.2.length ≤ 6 ∧ (pgA G p).2.1 ≤ 2) ∧ ∀ c, c < (pgA G p).2.2.length → clP k v p cs rs (cmA (pgA G p).2.2 c)
def lwP (k v : Nat → Nat) (sf : Option (Nat × Nat)) (nF : Nat) (cs rs : List Cd) (BR : List Br) (m : Lw) : Prop := m.1 < nF ∧ ∃ L E r pg, seg cs m.2.1 (lcI L m.2.1 ++ E ++ [(10, 0)]) ∧ seg rs r (rcI L ++ E) ∧ seg BR m.2.2.1 (brI L r ++ [(0, 0, 0, r + (rcI L).length, r + (rcI L).length + E.length)]) ∧ m.2.2.2 = m.2.2.1 + ((brI L r).length + 1) ∧ gdL k v pg (sf = none) L ∧ xE k v pg (sf = none) E
def nP (sf : Option (Nat × Nat)) (F : List Fa) (G : List Pg) : Prop := sf = none → dF F ∧ (∀ p q, p < G.length → q < G.length → (pgA G p).1 = (pgA G q).1 → p = q) ∧ ∀ f p, f < F.length → p < G.length → (faA F f).1 ≠ (pgA G p).1
def PI (k v : Nat → Nat) (co : Co) (st : St) : Prop := cP k v co.1 co.2.2.1 co.2.2.2 ∧ fP co.2.1 st.1 ∧ gP k v co.2.2.1 co.2.2.2 st.2.1 ∧ (∀ m ∈ st.2.2.1, lwP k v co.2.1 st.1.length co.2.2.1 co.2.2.2 st.2.2.2.1 m) ∧ nP co.2.1 st.1 st.2.1 ∧ (co.2.1 = none → st.2.2.2.2.1 ≤ 100) ∧ st.2.2.2.2.2.2 ≤ 6
section PIV
variable {k v : Nat → Nat} {B : Nat → Nat} {n : Nat} {m : Md} {a a' : Nat} {sf sf' : Option (Nat × Nat)} {cs rs : List Cd} {F : List Fa} {G : List Pg} {LW : List Lw} {BR : List Br} {sl sd pg p : Nat} {st : St} {c : Co}
theorem ite_sft {d : Prop} [Decidable d] {p : Nat → Nat} {x j : Nat} (e : (if d then sftS p x j m else m) = .ok c) : ∃ a sf cs rs S, m = .ok (a, sf, cs, rs) ∧ c = (a, S, cs, rs) ∧ (S = none → sf = none ∧ ¬ d) := by
  split at e
  · match m, e with
    | .ok (a, sf, cs, rs), e =>
      cases e
      refine ⟨a, sf, cs, rs, _, rfl, rfl, fun z => ?_⟩
      have e2 := sfO_n z
      rw [e2] at z
      cases z
  · rename_i q
    obtain ⟨a, sf, cs, rs⟩ := c
    exact ⟨a, sf, cs, rs, sf, e, rfl, fun z => ⟨z, q⟩⟩
theorem fa_ok (e : faS B n F G a (.ok (a, sf, cs, rs)) = .ok c) : ∃ a' S, c = (a', S, cs, rs) ∧ a ≤ a' ∧ a' ≤ 400 ∧ F.length < 8 ∧ (S = none → sf = none ∧ ¬ told (nS B n (a + 1)) F G = true ∧ ¬ (vS B n (a + 2) < 1 ∨ 3 < vS B n (a + 2)) ∧ ¬ 2000 < wcF F F.length * (vS B n (a + 2) + 1) ∧ ¬ vS B n (a + 2) < vS B n (a + 3)) := by
  unfold faS at e
  split at e
  · rename_i h8
    match hm : fa6 B n (.ok (a, sf, cs, rs)) with
    | .error er => rw [hm] at e; cases e
    | .ok c6 =>
      rw [hm] at e
      have e : jd4 B n F G a (.ok c6) = .ok c := e
      obtain ⟨x1, x2, x3, x4, x5, x6, x7, x8⟩ := tk_ok (show tkS (kS B n) (pS B n) 59 (fa5 B n (.ok (a, sf, cs, rs))) = _ from hm)
      have h5 : a ≤ x1 ∧ x2 = sf ∧ x3 = cs ∧ x4 = rs := by
        have t4 : ∀ y g1 g2 g3, fa4 B n (.ok (a, sf, cs, rs)) = .ok (y, g1, g2, g3) → a ≤ y ∧ g1 = sf ∧ g2 = cs ∧ g3 = rs := by
          intro y g1 g2 g3 h4
          obtain ⟨y1, y2, y3, y4, y5, y6, y7, y8⟩ := tk_ok (show tkS (kS B n) (pS B n) 3 _ = _ from h4)
          obtain ⟨z1, z2, z3, z4, z5, z6, z7, z8⟩ := tk_ok y5
          obtain ⟨u1, u2, u3, u4, u5, u6, u7, u8⟩ := tk_ok z5
          obtain ⟨t1, t2, t3, t4, t5, t6, t7, t8⟩ := tk_ok u5
          cases t5
          cases t8
          cases u8
          cases z8
          cases y8
          exact ⟨by omega, rfl, rfl, rfl⟩
        unfold fa5 at x5
        match h4 : fa4 B n (.ok (a, sf, cs, rs)) with
        | .error er => rw [h4] at x5; cases x5
        | .ok (y, g1, g2, g3) =>
          rw [h4] at x5
          dsimp only at x5
          have q := t4 y g1 g2 g3 h4
          split at x5
          · obtain ⟨y1, y2, y3, y4, y5, y6, y7, y8⟩ := tk_ok x5
            cases y5
            cases y8
            exact ⟨by omega, q.2⟩
          · cases x5
            exact q
      obtain ⟨a1, rfl, rfl, rfl⟩ := h5
      subst x8
      obtain ⟨b1, f1, c1, r1, S1, e1, w1, n1⟩ := ite_sft (show (if vS B n (a + 2) < vS B n (a + 3) then sftS (pS B n) 5 (a + 3) (jd3 B n F G a (.ok (x1 + 1, x2, x3, x4))) else jd3 B n F G a (.ok (x1 + 1, x2, x3, x4))) = .ok c from e)
      obtain ⟨b2, f2, c2, r2, S2, e2, w2, n2⟩ := ite_sft (show (if 2000 < wcF F F.length * (vS B n (a + 2) + 1) then sftS (pS B n) 7 (a + 2) (jd2 B n F G a (.ok (x1 + 1, x2, x3, x4))) else jd2 B n F G a (.ok (x1 + 1, x2, x3, x4))) = .ok (b1, f1, c1, r1) from e1)
      obtain ⟨b3, f3, c3, r3, S3, e3, w3, n3⟩ := ite_sft (show (if vS B n (a + 2) < 1 ∨ 3 < vS B n (a + 2) then sftS (pS B n) 5 (a + 2) (jd1 B n F G a (.ok (x1 + 1, x2, x3, x4))) else jd1 B n F G a (.ok (x1 + 1, x2, x3, x4))) = .ok (b2, f2, c2, r2) from e2)
      obtain ⟨b4, f4, c4, r4, S4, e4, w4, n4⟩ := ite_sft (show (if told (nS B n (a + 1)) F G = true then sftS (pS B n) 3 (a + 1) (.ok (x1 + 1, x2, x3, x4)) else .ok (x1 + 1, x2, x3, x4)) = .ok (b3, f3, c3, r3) from e3)
      cases e4
      cases w4
      cases w3
      cases w2
      subst w1
      refine ⟨x1 + 1, S1, rfl, by omega, by omega, h8, fun z => ?_⟩
      have h1 := n1 z
      have h2 := n2 h1.1
      have h3 := n3 h2.1
      have h4 := n4 h3.1
      exact ⟨h4.1, h4.2, h3.2, h2.2, h1.2⟩
  · cases e
theorem cP.mo (h : cP k v a cs rs) (h1 : a ≤ a') (h2 : a' ≤ 400) : cP k v a' cs rs := ⟨Nat.le_trans h.1 h1, h2, h.2.2.1, inc_mo _ _ _ _ _ h.2.2.2.1 (Nat.le_refl _) h1, h.2.2.2.2.1, h.2.2.2.2.2⟩
theorem cP.app {E E' : List Cd} (h : cP k v a cs rs) (h1 : (cs ++ E).length ≤ a') (h2 : a' ≤ 400) (ht : tks E = tks E') (hi : inc a a' (tks E')) (hc : ∀ x ∈ E, okC k v x) (hr : ∀ x ∈ E', okR k v x) : cP k v a' (cs ++ E) (rs ++ E') := by
  refine ⟨h1, h2, by rw [tks_app, tks_app, h.2.2.1, ht], by rw [tks_app]; exact inc_app _ _ _ _ _ h.2.2.2.1 hi, fun x hx => ?_, fun x hx => ?_⟩
  · rcases List.mem_append.mp hx with q | q
    · exact h.2.2.2.2.1 x q
    · exact hc x q
  · rcases List.mem_append.mp hx with q | q
    · exact h.2.2.2.2.2 x q
    · exact hr x q
theorem lwP.up {nF : Nat} {x : Lw} (h : lwP k v sf nF cs rs BR x) {nF' : Nat} {t t' : List Cd} {b : List Br} (hn : nF ≤ nF') (hs : sf' = none → sf = none) : lwP k v sf' nF' (cs ++ t) (rs ++ t') (BR ++ b) x := by
  obtain ⟨h1, L, E, r, pg, s1, s2, s3, s4, s5, s6⟩ := h
  exact ⟨by omega, L, E, r, pg, s1.ap t, s2.ap t', s3.ap b, s4, fun y hy => ⟨(s5 y hy).1.w hs, (s5 y hy).2.1.w hs, (s5 y hy).2.2.w hs⟩, s6.w hs⟩
theorem lwP.up0 {nF : Nat} {x : Lw} (h : lwP k v sf nF cs rs BR x) {nF' : Nat} (hn : nF ≤ nF') (hs : sf' = none → sf = none) : lwP k v sf' nF' cs rs BR x := by
  have := h.up (t := []) (t' := []) (b := []) hn hs
  rwa [List.append_nil, List.append_nil, List.append_nil] at this
theorem clP.up {x : Cm} {t t' : List Cd} (h : clP k v p cs rs x) : clP k v p (cs ++ t) (rs ++ t') x := by
  obtain ⟨E1, E2, so, h1, h2, h3, h4, h5, h6⟩ := h
  exact ⟨E1, E2, so, h1, h2, h3.ap t, h4.ap t', h5, h6⟩
theorem gP.up {t t' : List Cd} (h : gP k v cs rs G) : gP k v (cs ++ t) (rs ++ t') G := ⟨h.1, fun p hp => ⟨(h.2 p hp).1, fun c hc => ((h.2 p hp).2 c hc).up⟩⟩
theorem told_n2 {nm : List Nat} (h : ¬ told nm F G = true) : ∀ p, p < G.length → (pgA G p).1 ≠ nm := by
  intro f hf e
  apply h
  unfold told
  rw [Bool.or_eq_true]
  exact Or.inr ((fiG_some _ _).mpr ⟨f, by omega, by omega, e⟩)
theorem PI.fact (h : PI (kS B n) (vS B n) (a, sf, cs, rs) (F, G, LW, BR, sl, sd, pg)) (e : faS B n F G a (.ok (a, sf, cs, rs)) = .ok c) : PI (kS B n) (vS B n) c (F ++ [faN B n a], G, LW, BR, sl, sd, pg) := by
  obtain ⟨h1, h2, h3, h4, h5, h6, h7⟩ := h
  have h2 : fP sf F := h2
  have h5 : nP sf F G := h5
  have h6 : sf = none → sl ≤ 100 := h6
  obtain ⟨a', S, rfl, a1, a2, a3, a4⟩ := fa_ok e
  refine ⟨h1.mo a1 a2, ⟨by rw [ap1]; omega, fun f hf => ?_, fun z f hf => ?_⟩, h3, fun x hx => (h4 x hx).up0 (by rw [ap1]; exact Nat.le_succ _) (fun z => (a4 z).1), fun z => ?_, fun z => h6 (a4 z).1, h7⟩
  · rw [ap1] at hf
    by_cases q : f = F.length
    · rw [q, faA_r]
      show (if kS B n (a + 4) = 101 then 1 else if kS B n (a + 4) = 102 then 2 else 0) ≤ 2
      split <;> (try split) <;> omega
    · rw [faA_l (by omega)]
      exact h2.2.1 f (by omega)
  · rw [ap1] at hf
    obtain ⟨z1, z2, z3, z4, z5⟩ := a4 z
    by_cases q : f = F.length
    · rw [q, faA_r]
      have e3 : (faN B n a).2.1 = vS B n (a + 2) := rfl
      have e4 : (faN B n a).2.2.1 = vS B n (a + 3) := rfl
      rw [e3, e4]
      have ew : wcF (F ++ [faN B n a]) (F.length + 1) = if wcF (F ++ [faN B n a]) F.length * (cl13 (faA (F ++ [faN B n a]) F.length).2.1 + 1) < 2000 then wcF (F ++ [faN B n a]) F.length * (cl13 (faA (F ++ [faN B n a]) F.length).2.1 + 1) else 2000 := rfl
      have ec : cl13 (vS B n (a + 2)) = vS B n (a + 2) := by unfold cl13; rw [if_neg (by omega)]; split <;> omega
      rw [faA_r, e3, ec, wcF_l _ (Nat.le_refl _)] at ew
      refine ⟨by omega, by omega, by omega, ?_⟩
      rw [ew, wcF_l _ (Nat.le_refl _)]
      split
      · rfl
      · omega
    · have := h2.2.2 z1 f (by omega)
      rw [faA_l (by omega), wcF_l _ (by omega), wcF_l _ (by omega)]
      exact this
  · obtain ⟨z1, z2, z3, z4, z5⟩ := a4 z
    obtain ⟨n1, n2, n3⟩ := h5 z1
    refine ⟨n1.ap (told_no z2), n2, fun f p hf hp => ?_⟩
    have hf : f < (F ++ [faN B n a]).length := hf
    rw [ap1] at hf
    by_cases q : f = F.length
    · rw [q]
      show (faA (F ++ [faN B n a]) F.length).1 ≠ _
      rw [faA_r]
      exact fun w => told_n2 z2 p hp w.symm
    · show (faA (F ++ [faN B n a]) f).1 ≠ _
      rw [faA_l (by omega)]
      exact n3 f p (by omega) hp
theorem xE_okR {P : Prop} {E : List Cd} (hp : pg ≤ 6) (h : xE k v pg P E) : ∀ x ∈ E, okR k v x := fun x hx => ⟨pg, hp, h.2.1 x hx⟩
theorem tks_lc : ∀ (L : List E3) (b : Nat), tks (lcI L b) = tks (rcI L) := by
  intro L
  induction L with
  | nil => intro b; rfl
  | cons t L ih =>
    intro b
    obtain ⟨x, y, z⟩ := t
    show tks ((x ++ y ++ [(6, 0), (9, b + x.length + y.length + 3 + z.length)] ++ z ++ [(10, 0)]) ++ lcI L _) = tks ((x ++ y ++ z) ++ rcI L)
    simp only [tks_app, ih]
    have e1 : tks [(6, 0), (9, b + x.length + y.length + 3 + z.length)] = [] := rfl
    have e2 : tks [((10, 0) : Cd)] = [] := rfl
    rw [e1, e2, List.append_nil, List.append_nil]
theorem tks_cc : ∀ (L : List C3), gdC k v p L → tks (ccI L) = tks (crI L) := by
  intro L
  induction L with
  | nil => intro _; rfl
  | cons t L ih =>
    intro hg
    obtain ⟨x, y, so⟩ := t
    have h2 : so ≤ 2 := (hg _ List.mem_cons_self).2.2
    show tks ((x ++ y ++ [(6 + so, 0), (10, 0)]) ++ ccI L) = tks ((x ++ y) ++ crI L)
    simp only [tks_app, ih (fun t ht => hg t (List.mem_cons_of_mem _ ht))]
    have e1 : tks [(6 + so, 0), (10, 0)] = [] := by
      show (if 6 + so = 11 then _ else _) = _
      rw [if_neg (by omega)]
      rfl
    rw [e1, List.append_nil]
theorem lc_ok {P : Prop} (hp : pg ≤ 6) : ∀ (L : List E3) (b : Nat), gdL k v pg P L → b + (lcI L b).length ≤ 512 → (∀ x ∈ lcI L b, okC k v x) ∧ ∀ x ∈ rcI L, okR k v x := by
  intro L
  induction L with
  | nil => intro b _ _; exact ⟨fun x hx => (by cases hx), fun x hx => (by cases hx)⟩
  | cons t L ih =>
    intro b hg hl
    obtain ⟨x, y, z⟩ := t
    have hl : b + ((x ++ y ++ [(6, 0), (9, b + x.length + y.length + 3 + z.length)] ++ z ++ [(10, 0)]) ++ lcI L (b + x.length + y.length + 3 + z.length)).length ≤ 512 := hl
    have h0 := hg _ List.mem_cons_self
    have hx := xE_okR hp h0.1
    have hy := xE_okR hp h0.2.1
    have hz := xE_okR hp h0.2.2
    simp only [List.length_append, List.length_cons, List.length_nil] at hl
    have hi := ih (b + x.length + y.length + 3 + z.length) (fun t ht => hg t (List.mem_cons_of_mem _ ht)) (by omega)
    refine ⟨fun w hw => ?_, fun w hw => ?_⟩
    · have hw : w ∈ (x ++ y ++ [(6, 0), (9, b + x.length + y.length + 3 + z.length)] ++ z ++ [(10, 0)]) ++ lcI L (b + x.length + y.length + 3 + z.length) := hw
      simp only [List.mem_append, List.mem_cons, List.not_mem_nil, or_false] at hw
      rcases hw with (((((q | q) | (q | q)) | q) | q) | q)
      · exact Or.inl (hx w q)
      · exact Or.inl (hy w q)
      · rw [q]; exact Or.inr ⟨by decide, by decide, by decide⟩
      · rw [q]; exact Or.inr ⟨show 6 ≤ 9 by decide, show 9 ≤ 10 by decide, show b + x.length + y.length + 3 + z.length ≤ 512 by omega⟩
      · exact Or.inl (hz w q)
      · rw [q]; exact Or.inr ⟨by decide, by decide, by decide⟩
      · exact hi.1 w q
    · have hw : w ∈ (x ++ y ++ z) ++ rcI L := hw
      simp only [List.mem_append] at hw
      rcases hw with (((q | q) | q) | q)
      · exact hx w q
      · exact hy w q
      · exact hz w q
      · exact hi.2 w q
theorem cc_ok (hp : pg ≤ 6) : ∀ (L : List C3), gdC k v pg L → (∀ x ∈ ccI L, okC k v x) ∧ ∀ x ∈ crI L, okR k v x := by
  intro L
  induction L with
  | nil => intro _; exact ⟨fun x hx => (by cases hx), fun x hx => (by cases hx)⟩
  | cons t L ih =>
    intro hg
    obtain ⟨x, y, so⟩ := t
    have h0 := hg _ List.mem_cons_self
    have hx := xE_okR hp h0.1
    have hy := xE_okR hp h0.2.1
    have h2 : so ≤ 2 := h0.2.2
    have hi := ih (fun t ht => hg t (List.mem_cons_of_mem _ ht))
    refine ⟨fun w hw => ?_, fun w hw => ?_⟩
    · have hw : w ∈ (x ++ y ++ [(6 + so, 0), (10, 0)]) ++ ccI L := hw
      simp only [List.mem_append, List.mem_cons, List.not_mem_nil, or_false] at hw
      rcases hw with (((q | q) | (q | q)) | q)
      · exact Or.inl (hx w q)
      · exact Or.inl (hy w q)
      · rw [q]; exact Or.inr ⟨show 6 ≤ 6 + so by omega, show 6 + so ≤ 10 by omega, show 0 ≤ 512 by decide⟩
      · rw [q]; exact Or.inr ⟨by decide, by decide, by decide⟩
      · exact hi.1 w q
    · have hw : w ∈ (x ++ y) ++ crI L := hw
      simp only [List.mem_append] at hw
      rcases hw with ((q | q) | q)
      · exact hx w q
      · exact hy w q
      · exact hi.2 w q
theorem PI.goes (h : PI (kS B n) (vS B n) (a, sf, cs, rs) (F, G, LW, BR, sl, sd, pg)) (e : goS B n F pg a (.ok (a, sf, cs, rs)) = .ok c) : PI (kS B n) (vS B n) c (F, G, goL B n F LW BR.length (BR ++ goB B n F pg a (.ok (a, sf, cs, rs))).length a cs.length, BR ++ goB B n F pg a (.ok (a, sf, cs, rs)), sl, sd, pg) := by
  obtain ⟨h1, h2, h3, h4, h5, h6, h7⟩ := h
  have h1 : cP (kS B n) (vS B n) a cs rs := h1
  have h2 : fP sf F := h2
  have h4 : ∀ m ∈ LW, lwP (kS B n) (vS B n) sf F.length cs rs BR m := h4
  have h5 : nP sf F G := h5
  have h6 : sf = none → sl ≤ 100 := h6
  have h7 : pg ≤ 6 := h7
  obtain ⟨x1, x2, x3, x4, x5, x6, x7, x8⟩ := tk_ok e
  match hm : tkS (kS B n) (pS B n) 2 (tkS (kS B n) (pS B n) 103 (.ok (a, sf, cs, rs))) with
  | .error er => rw [hm] at x5; cases x5
  | .ok c2 =>
    obtain ⟨y1, y2, y3, y4, y5, y6, y7, y8⟩ := tk_ok hm
    obtain ⟨z1, z2, z3, z4, z5, z6, z7, z8⟩ := tk_ok y5
    cases z5
    cases z8
    subst y8
    have em : ∃ S, goM B n F pg a (.ok (a + 1 + 1, sf, cs, rs)) = .ok (a + 2, S, cs, rs) ∧ (S = none → sf = none ∧ fiF (nS B n (a + 1)) F F.length 0 ≠ none) := by
      unfold goM
      dsimp only
      match fiF (nS B n (a + 1)) F F.length 0 with
      | none =>
        refine ⟨_, rfl, fun z => ?_⟩
        have e2 := sfO_n z
        rw [e2] at z
        cases z
      | some f => exact ⟨sf, rfl, fun z => ⟨z, fun q => (by cases q)⟩⟩
    obtain ⟨S, em, hS⟩ := em
    rw [hm, em] at x5
    obtain ⟨L, E, b', sf', g1, g2, g3, g4, g5, g6, g7, g8⟩ := law_E (by omega) (by have := h1.1; omega) x5
    cases g1
    have eb : goB B n F pg a (.ok (a, sf, cs, rs)) = brI L rs.length ++ [(0, 0, 0, rs.length + (rcI L).length, rs.length + (rcI L).length + E.length)] := by
      unfold goB
      rw [hm, em]
      exact g2
    rw [eb]
    subst x8
    have sn : x2 = none → sf = none := fun z => (hS (g8 z)).1
    have lE : (lcI L cs.length ++ E ++ [(10, 0)]).length = (lcI L cs.length).length + E.length + 1 := by simp only [List.length_append, List.length_cons, List.length_nil]
    have lo := lc_ok (k := kS B n) (v := vS B n) h7 L cs.length g3 (by rw [List.length_append, lE] at g6; omega)
    have oE := xE_okR h7 g4
    have tE' : tks (lcI L cs.length ++ E ++ [(10, 0)]) = tks (rcI L ++ E) := by
      rw [tks_app, tks_app, tks_app, tks_lc]
      exact List.append_nil _
    refine ⟨h1.app (by omega) (by omega) tE' (inc_mo _ _ _ _ _ g7 (by omega) (by omega)) (fun x hx => ?_) (fun x hx => ?_), ⟨h2.1, h2.2.1, fun z => h2.2.2 (sn z)⟩, h3.up, fun x hx => ?_, fun z => h5 (sn z), fun z => h6 (sn z), h7⟩
    · simp only [List.mem_append, List.mem_cons, List.not_mem_nil, or_false] at hx
      rcases hx with ((q | q) | q)
      · exact lo.1 x q
      · exact Or.inl (oE x q)
      · rw [q]; exact Or.inr ⟨by decide, by decide, by decide⟩
    · rcases List.mem_append.mp hx with q | q
      · exact lo.2 x q
      · exact oE x q
    · have hx : x ∈ goL B n F LW BR.length (BR ++ (brI L rs.length ++ [(0, 0, 0, rs.length + (rcI L).length, rs.length + (rcI L).length + E.length)])).length a cs.length := hx
      unfold goL at hx
      have old : ∀ y ∈ LW, lwP (kS B n) (vS B n) x2 F.length (cs ++ (lcI L cs.length ++ E ++ [(10, 0)])) (rs ++ (rcI L ++ E)) (BR ++ (brI L rs.length ++ [(0, 0, 0, rs.length + (rcI L).length, rs.length + (rcI L).length + E.length)])) y := fun y hy => (h4 y hy).up (Nat.le_refl _) sn
      match hf : fiF (nS B n (a + 1)) F F.length 0 with
      | none => rw [hf] at hx; exact old x hx
      | some f =>
        rw [hf] at hx
        rcases List.mem_cons.mp hx with q | q
        · subst q
          have hf8 : f < F.length := by
            have := fiF_lt _ _ _ hf
            omega
          exact ⟨hf8, L, E, rs.length, pg, seg.last, seg.last, seg.last, by
            show (BR ++ (brI L rs.length ++ [(0, 0, 0, rs.length + (rcI L).length, rs.length + (rcI L).length + E.length)])).length = BR.length + ((brI L rs.length).length + 1)
            rw [List.length_append, ap1], g3, g4⟩
        · exact old x q
end PIV

/-! READING: what stands after a page and after all -/
section PI2
variable {k v : Nat → Nat} {B : Nat → Nat} {n : Nat} {m : Md} {a a' : Nat} {sf sf' : Option (Nat × Nat)} {cs rs : List Cd} {F : List Fa} {G : List Pg} {LW : List Lw} {BR : List Br} {sl sd pg p : Nat} {st : St} {c : Co}
theorem cb_len : ∀ (L : List C3) (i r : Nat), (cbI L i r).length = L.length := by
  intro L
  induction L with
  | nil => intro i r; rfl
  | cons t L ih => intro i r; obtain ⟨x, y, so⟩ := t; show (cbI L _ _).length + 1 = L.length + 1; rw [ih]
theorem cc_seg : ∀ (L : List C3) (cs rs : List Cd) (c : Nat), c < L.length → gdC k v p L → clP k v p (cs ++ ccI L) (rs ++ crI L) (cmA (cbI L cs.length rs.length) c) := by
  intro L
  induction L with
  | nil => intro cs rs c hc; exact absurd hc (Nat.not_lt_zero _)
  | cons t L ih =>
    intro cs rs c hc hg
    obtain ⟨x, y, so⟩ := t
    have h0 := hg _ List.mem_cons_self
    cases c with
    | zero =>
      have s1 : seg (cs ++ ((x ++ y ++ [(6 + so, 0), (10, 0)]) ++ ccI L)) cs.length (x ++ y ++ [(6 + so, 0), (10, 0)]) := seg.mid
      have s2 : seg (rs ++ ((x ++ y) ++ crI L)) rs.length (x ++ y) := seg.mid
      exact ⟨x, y, so, h0.2.2, rfl, s1, s2, h0.1, h0.2.1⟩
    | succ c =>
      have hc : c + 1 < L.length + 1 := hc
      have := ih (cs ++ (x ++ y ++ [(6 + so, 0), (10, 0)])) (rs ++ (x ++ y)) c (by omega) (fun t ht => hg t (List.mem_cons_of_mem _ ht))
      rw [List.append_assoc, List.append_assoc rs] at this
      have e1 : (cs ++ (x ++ y ++ [(6 + so, 0), (10, 0)])).length = cs.length + x.length + y.length + 2 := by
        simp only [List.length_append, List.length_cons, List.length_nil]
        omega
      have e2 : (rs ++ (x ++ y)).length = rs.length + x.length + y.length := by
        simp only [List.length_append]
        omega
      rw [e1, e2] at this
      exact this
theorem PI.page (h : PI (kS B n) (vS B n) (a, sf, cs, rs) (F, G, LW, BR, sl, sd, pg)) (e : pgS B n F G a (.ok (a, sf, cs, rs)) = .ok c) : PI (kS B n) (vS B n) c (F, G ++ [pgN B n F G a (.ok (a, sf, cs, rs))], LW, BR, sl, sd, G.length) := by
  obtain ⟨h1, h2, h3, h4, h5, h6, h7⟩ := h
  have h1 : cP (kS B n) (vS B n) a cs rs := h1
  have h2 : fP sf F := h2
  have h3 : gP (kS B n) (vS B n) cs rs G := h3
  have h4 : ∀ m ∈ LW, lwP (kS B n) (vS B n) sf F.length cs rs BR m := h4
  have h5 : nP sf F G := h5
  have h6 : sf = none → sl ≤ 100 := h6
  unfold pgS at e
  split at e
  · rename_i g6
    obtain ⟨L, a', sf', rfl, p2, p3, p4, p5, p6, p7, p8, p9, p10, p11⟩ := page_E h1.2.1 h1.1 e
    have sn : sf' = none → sf = none := fun z => (p9 z).1
    have ok := cc_ok (k := kS B n) (v := vS B n) (show G.length ≤ 6 by omega) L p5
    have en : (pgN B n F G a (.ok (a, sf, cs, rs))).2.2 = cbI L cs.length rs.length := p2
    have en1 : (pgN B n F G a (.ok (a, sf, cs, rs))).2.1 = shO (kS B n (a + 2)) := rfl
    have en0 : (pgN B n F G a (.ok (a, sf, cs, rs))).1 = nS B n (a + 1) := rfl
    generalize pgN B n F G a (.ok (a, sf, cs, rs)) = X at en en1 en0 ⊢
    refine ⟨h1.app p7 p6 (tks_cc L p5) p8 ok.1 ok.2, ⟨h2.1, h2.2.1, fun z => h2.2.2 (sn z)⟩, ⟨by rw [ap1]; omega, fun q hq => ?_⟩, fun x hx => ?_, fun z => ?_, fun z => h6 (sn z), show G.length ≤ 6 by omega⟩
    · rw [ap1] at hq
      by_cases z : q = G.length
      · rw [z, pgA_r, en, cb_len, en1]
        refine ⟨⟨p3, p4, ?_⟩, fun c hc => cc_seg L cs rs c hc p5⟩
        unfold shO
        split <;> (try split) <;> omega
      · rw [pgA_l (by omega)]
        have := h3.2 q (by omega)
        exact ⟨this.1, fun c hc => (this.2 c hc).up⟩
    · have := (h4 x hx).up (t := ccI L) (t' := crI L) (b := []) (Nat.le_refl _) sn
      rw [List.append_nil] at this
      exact this
    · obtain ⟨n1, n2, n3⟩ := h5 (sn z)
      have nt := (p9 z).2
      refine ⟨n1, fun q q' hq hq' w => ?_, fun f q hf hq => ?_⟩
      · have hq : q < (G ++ [X]).length := hq
        have hq' : q' < (G ++ [X]).length := hq'
        rw [ap1] at hq hq'
        have w : (pgA (G ++ [X]) q).1 = (pgA (G ++ [X]) q').1 := w
        by_cases z1 : q = G.length
        · by_cases z2 : q' = G.length
          · omega
          · rw [z1, pgA_r, pgA_l (by omega), en0] at w
            exact absurd w.symm (told_n2 nt q' (by omega))
        · by_cases z2 : q' = G.length
          · rw [z2, pgA_r, pgA_l (by omega), en0] at w
            exact absurd w (told_n2 nt q (by omega))
          · rw [pgA_l (by omega), pgA_l (by omega)] at w
            exact n2 q q' (by omega) (by omega) w
      · have hq : q < (G ++ [X]).length := hq
        rw [ap1] at hq
        show (faA F f).1 ≠ (pgA (G ++ [X]) q).1
        by_cases z1 : q = G.length
        · rw [z1, pgA_r, en0]
          exact told_no nt f hf
        · rw [pgA_l (by omega)]
          exact n3 f q hf (by omega)
  · cases e
theorem PI.mo2 (h : PI k v (a, sf, cs, rs) (F, G, LW, BR, sl, sd, pg)) {sl' sd' : Nat} (h1 : a ≤ a') (h2 : a' ≤ 400) (hs : sf' = none → sf = none) (h3 : sf' = none → sl' ≤ 100) : PI k v (a', sf', cs, rs) (F, G, LW, BR, sl', sd', pg) := by
  obtain ⟨q1, q2, q3, q4, q5, q6, q7⟩ := h
  have q2 : fP sf F := q2
  exact ⟨cP.mo q1 h1 h2, ⟨q2.1, q2.2.1, fun z => q2.2.2 (hs z)⟩, q3, fun x hx => (q4 x hx).up0 (Nat.le_refl _) hs, fun z => q5 (hs z), h3, q7⟩
theorem PI.step {y : Co × St} (h : PI (kS B n) (vS B n) (a, sf, cs, rs) (F, G, LW, BR, sl, sd, pg)) (e : stS B n ((a, sf, cs, rs), (F, G, LW, BR, sl, sd, pg)) = .ok y) : PI (kS B n) (vS B n) y.1 y.2 := by
  have es : stS B n ((a, sf, cs, rs), (F, G, LW, BR, sl, sd, pg)) = if kS B n a = 100 then lift (faS B n F G a (.ok (a, sf, cs, rs))) (F ++ [faN B n a], G, LW, BR, sl, sd, pg)
      else if kS B n a = 103 then lift (goS B n F pg a (.ok (a, sf, cs, rs))) (F, G, goL B n F LW BR.length (BR ++ goB B n F pg a (.ok (a, sf, cs, rs))).length a cs.length, BR ++ goB B n F pg a (.ok (a, sf, cs, rs)), sl, sd, pg)
      else if kS B n a = 104 then lift (pgS B n F G a (.ok (a, sf, cs, rs))) (F, G ++ [pgN B n F G a (.ok (a, sf, cs, rs))], LW, BR, sl, sd, G.length)
      else if kS B n a = 109 then lift (slS (pS B n) (vS B n) a (tkS (kS B n) (pS B n) 59 (tkS (kS B n) (pS B n) 3 (tkS (kS B n) (pS B n) 109 (.ok (a, sf, cs, rs)))))) (F, G, LW, BR, vS B n (a + 1), sd, pg)
      else if kS B n a = 110 then lift (tkS (kS B n) (pS B n) 59 (tkS (kS B n) (pS B n) 3 (tkS (kS B n) (pS B n) 110 (.ok (a, sf, cs, rs))))) (F, G, LW, BR, sl, vS B n (a + 1), pg)
      else .error (1, pS B n a) := rfl
  rw [es] at e
  have tk3 : ∀ {x : Nat} {c : Co}, tkS (kS B n) (pS B n) 59 (tkS (kS B n) (pS B n) 3 (tkS (kS B n) (pS B n) x (.ok (a, sf, cs, rs)))) = .ok c → c = (a + 3, sf, cs, rs) ∧ a + 3 ≤ 400 := by
    intro x c e
    obtain ⟨y1, y2, y3, y4, y5, y6, y7, y8⟩ := tk_ok e
    obtain ⟨z1, z2, z3, z4, z5, z6, z7, z8⟩ := tk_ok y5
    obtain ⟨u1, u2, u3, u4, u5, u6, u7, u8⟩ := tk_ok z5
    cases u5
    cases u8
    cases z8
    subst y8
    exact ⟨rfl, by omega⟩
  split at e
  · obtain ⟨e1, e2⟩ := lift_ok e
    rw [e2]
    exact h.fact e1
  · split at e
    · obtain ⟨e1, e2⟩ := lift_ok e
      rw [e2]
      exact h.goes e1
    · split at e
      · obtain ⟨e1, e2⟩ := lift_ok e
        rw [e2]
        exact h.page e1
      · split at e
        · obtain ⟨e1, e2⟩ := lift_ok e
          obtain ⟨c0, f1, f2, f3, f4⟩ := sl_ok e1
          obtain ⟨w1, w2⟩ := tk3 f1
          subst w1
          rw [e2]
          obtain ⟨⟨b1, b2, b3, b4⟩, bs⟩ := y
          have f2 : a + 3 = b1 := f2
          have f3 : b2 = none → sf = none ∧ vS B n (a + 1) ≤ 100 := f3
          have f4 : (cs, rs) = (b3, b4) := f4
          cases f4
          subst f2
          exact h.mo2 (by omega) w2 (fun z => (f3 z).1) (fun z => (f3 z).2)
        · split at e
          · obtain ⟨e1, e2⟩ := lift_ok e
            obtain ⟨w1, w2⟩ := tk3 e1
            rw [e2, w1]
            exact h.mo2 (by omega) w2 id h.2.2.2.2.2.1
          · cases e
theorem PI.all : ∀ (f : Nat) (x y : Co × St), PI (kS B n) (vS B n) x.1 x.2 → txL B n f x = .ok y → PI (kS B n) (vS B n) y.1 y.2 := by
  intro f
  induction f with
  | zero => intro x y h e; cases e; exact h
  | succ f ih =>
    intro x y h e
    obtain ⟨⟨a, sf, cs, rs⟩, F, G, LW, BR, sl, sd, pg⟩ := x
    unfold txL at e
    split at e
    · cases e; exact h
    · match hm : stS B n ((a, sf, cs, rs), F, G, LW, BR, sl, sd, pg) with
      | .error er => rw [hm] at e; cases e
      | .ok z =>
        rw [hm] at e
        exact ih z y (PI.step h hm) e
theorem PI.co0 (hp : pg ≤ 6) : PI k v co0 (stZ0 pg) := by
  refine ⟨⟨Nat.zero_le _, Nat.zero_le _, rfl, Nat.le_refl _, fun x hx => (by cases hx), fun x hx => (by cases hx)⟩, ⟨Nat.zero_le _, fun f hf => absurd hf (Nat.not_lt_zero _), fun _ f hf => absurd hf (Nat.not_lt_zero _)⟩, ⟨Nat.zero_le _, fun p hp => absurd hp (Nat.not_lt_zero _)⟩, fun x hx => (by cases hx), fun _ => ⟨fun f g hf => absurd hf (Nat.not_lt_zero _), fun f g hf => absurd hf (Nat.not_lt_zero _), fun f p hf => absurd hf (Nat.not_lt_zero _)⟩, fun _ => Nat.zero_le _, hp⟩
end PI2

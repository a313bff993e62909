/-! READING: the other side goes through the whole text -/
section RLP
variable {s o : Nat} {B : Nat → Nat} {n : Nat} {h h0 h1 h2 : XH} {m : Md} {a a' : Nat} {sf sf' : Option (Nat × Nat)} {cs rs : List Cd} {Q : Value → XH → Prop} {NM : List (List Nat × Nat)} {nm : List Nat} {F : List Fa} {G : List Pg} {LW : List Lw} {BR : List Br} {sl sd pg : Nat} {st : St}
theorem mle.ite {c : Prop} [Decidable c] {x j : Nat} {p : Nat → Nat} : mle 0 m (if c then sftS p x j m else m) := by
  split
  · exact mle.sft
  · exact mle.rf
theorem mle.a6 : mle 5 m (fa6 B n m) := by
  have h5 : mle 0 (fa4 B n m) (fa5 B n m) := by
    intro c hc
    unfold fa5 at hc
    match hm : fa4 B n m with
    | .error e => rw [hm] at hc; cases hc
    | .ok (b, sf, cs, rs) =>
      rw [hm] at hc
      dsimp only at hc
      split at hc
      · exact mle.tk.le (by omega) c hc
      · exact mle.rf c hc
  exact (((mle.tk.tr mle.tk).tr (mle.tk.tr mle.tk)).tr (h5.tr mle.tk)).le (by omega)
theorem mle.j14 : mle 0 (jd1 B n F G a m) (jd4 B n F G a m) := ((mle.ite.tr mle.ite).tr mle.ite).le (by omega)
theorem mle.jd : mle 0 m (jdM B n F G a m) := by
  intro c hc
  match m, hc with
  | .ok c0, hc =>
    have hc : jd4 B n F G a (.ok c0) = .ok c := hc
    exact (mle.ite.tr mle.j14) c hc
theorem told_no (h : ¬ told nm F G = true) : ∀ f, f < F.length → (faA F f).1 ≠ nm := by
  intro f hf e
  apply h
  unfold told
  rw [Bool.or_eq_true]
  exact Or.inl ((fiF_some _ _).mpr ⟨f, by omega, by omega, e⟩)
theorem jd_told {c : Co} (e : jdM B n F G a m = .ok c) (hn : c.2.1 = none) : ¬ told (nS B n (a + 1)) F G = true := by
  intro ht
  match m, e with
  | .ok c0, e =>
    have e : jd4 B n F G a (.ok c0) = .ok c := e
    obtain ⟨c1, e1, _, n1, _⟩ := mle.j14 c e
    unfold jd1 at e1
    rw [if_pos ht] at e1
    obtain ⟨b0, b1, b2, b3⟩ := c0
    cases e1
    have := n1 hn
    have : sfO b1 (some (3, pS B n (a + 1))) = none := this
    have e2 := sfO_n this
    rw [e2] at this
    cases this
theorem dF.ap {x : Fa} (d : dF F) (hx : ∀ f, f < F.length → (faA F f).1 ≠ x.1) : dF (F ++ [x]) := by
  intro f g hf hg e
  rw [ap1] at hf hg
  by_cases q : f = F.length
  · by_cases q2 : g = F.length
    · omega
    · rw [q, faA_r, faA_l (by omega)] at e
      exact absurd e.symm (hx g (by omega))
  · by_cases q2 : g = F.length
    · rw [q2, faA_r, faA_l (by omega)] at e
      exact absurd e (hx f (by omega))
    · rw [faA_l (by omega), faA_l (by omega)] at e
      exact d f g (by omega) (by omega) e
theorem lift_ok {x : Co × St} (e : lift m st = .ok x) : m = .ok x.1 ∧ x.2 = st := by
  match m, e with
  | .ok c, e => cases e; exact ⟨rfl, rfl⟩
theorem sl_ok {c : Co} (e : slS (pS B n) (vS B n) a m = .ok c) : ∃ c0, m = .ok c0 ∧ c0.1 = c.1 ∧ (c.2.1 = none → c0.2.1 = none ∧ vS B n (a + 1) ≤ 100) ∧ c0.2.2 = c.2.2 := by
  unfold slS at e
  split at e
  · rename_i q; exact ⟨c, e, rfl, fun z => ⟨z, q⟩, rfl⟩
  · match m, e with
    | .ok (b, sf, cs, rs), e =>
      cases e
      refine ⟨_, rfl, rfl, fun z => ?_, rfl⟩
      have z : sfO sf (some (5, pS B n (a + 1))) = none := z
      have e2 := sfO_n z
      rw [e2] at z
      cases z
theorem st_le {y : Co × St} (e : stS B n ((a, sf, cs, rs), (F, G, LW, BR, sl, sd, pg)) = .ok y) : a + 1 ≤ y.1.1 ∧ (y.1.2.1 = none → sf = none) ∧ (y.1.2.1 = none → dF F → dF y.2.1) := by
  have es : stS B n ((a, sf, cs, rs), (F, G, LW, BR, sl, sd, pg)) = if kS B n a = 100 then lift (faS B n F G a (.ok (a, sf, cs, rs))) (F ++ [faN B n a], G, LW, BR, sl, sd, pg)
      else if kS B n a = 103 then lift (goS B n F pg a (.ok (a, sf, cs, rs))) (F, G, goL B n F LW BR.length (BR ++ goB B n F pg a (.ok (a, sf, cs, rs))).length a cs.length, BR ++ goB B n F pg a (.ok (a, sf, cs, rs)), sl, sd, pg)
      else if kS B n a = 104 then lift (pgS B n F G a (.ok (a, sf, cs, rs))) (F, G ++ [pgN B n F G a (.ok (a, sf, cs, rs))], LW, BR, sl, sd, G.length)
      else if kS B n a = 109 then lift (slS (pS B n) (vS B n) a (tkS (kS B n) (pS B n) 59 (tkS (kS B n) (pS B n) 3 (tkS (kS B n) (pS B n) 109 (.ok (a, sf, cs, rs)))))) (F, G, LW, BR, vS B n (a + 1), sd, pg)
      else if kS B n a = 110 then lift (tkS (kS B n) (pS B n) 59 (tkS (kS B n) (pS B n) 3 (tkS (kS B n) (pS B n) 110 (.ok (a, sf, cs, rs))))) (F, G, LW, BR, sl, vS B n (a + 1), pg)
      else .error (1, pS B n a) := rfl
  rw [es] at e
  have by_mle : ∀ {d : Nat} {m' : Md}, mle (d + 1) (.ok (a, sf, cs, rs)) m' → m' = .ok y.1 → a + 1 ≤ y.1.1 ∧ (y.1.2.1 = none → sf = none) := by
    intro d m' hm e
    obtain ⟨c0, e0, l0, n0, _⟩ := hm _ e
    cases e0
    have l0 : a + (d + 1) ≤ y.1.1 := l0
    exact ⟨by omega, n0⟩
  split at e
  · obtain ⟨e1, e2⟩ := lift_ok e
    unfold faS at e1
    split at e1
    · have := by_mle (d := 4) ((mle.a6.tr mle.jd).le (by omega)) e1
      refine ⟨this.1, this.2, fun z d => ?_⟩
      rw [e2]
      exact d.ap (told_no (jd_told e1 z))
    · cases e1
  · split at e
    · obtain ⟨e1, e2⟩ := lift_ok e
      have := by_mle (d := 4) mle.gS e1
      exact ⟨this.1, this.2, fun z d => by rw [e2]; exact d⟩
    · split at e
      · obtain ⟨e1, e2⟩ := lift_ok e
        unfold pgS at e1
        split at e1
        · have := by_mle (d := 6) (mle.p6.tr mle.tk) e1
          exact ⟨this.1, this.2, fun z d => by rw [e2]; exact d⟩
        · cases e1
      · split at e
        · obtain ⟨e1, e2⟩ := lift_ok e
          obtain ⟨c0, f1, f2, f3, f4⟩ := sl_ok e1
          obtain ⟨c1, g1, g2, g3, _⟩ := ((mle.tk.tr mle.tk).tr mle.tk) c0 f1
          cases g1
          have g2 : a + (1 + 1 + 1) ≤ c0.1 := g2
          exact ⟨by omega, fun z => g3 (f3 z).1, fun z d => by rw [e2]; exact d⟩
        · split at e
          · obtain ⟨e1, e2⟩ := lift_ok e
            have := by_mle (d := 2) ((mle.tk.tr mle.tk).tr mle.tk) e1
            exact ⟨this.1, this.2, fun z d => by rw [e2]; exact d⟩
          · cases e
theorem l_allR {M : Tx} (kk : ∀ h1, Rs s h0 h1 → tS s B n M h1 → (∀ y, M = .ok y → kS B n y.1.1 = 0) → Ev 178 236 [.ref 69, .null] [] h1 Q) :
    ∀ (f : Nat) (x : Co × St) (h : XH), 401 ≤ f + x.1.1 → Rs s h0 h → tS s B n (.ok x) h → (x.1.2.1 = none → dF x.2.1) → M = txL B n f x → Ev 178 214 [.ref 69, .null] [] h Q := by
  intro f
  induction f with
  | zero =>
    intro x h hf g t d eM
    have r : RR s 0 B n (.ok x.1) h := t.1
    obtain ⟨⟨a, sf, cs, rs⟩, st⟩ := x
    have := r.2.2.2.1.1
    have hf : 401 ≤ 0 + a := hf
    omega
  | succ f ih =>
    intro x h hf g t d eM
    obtain ⟨⟨a, sf, cs, rs⟩, F, G, LW, BR, sl, sd, pg⟩ := x
    have r : RR s 0 B n (.ok (a, sf, cs, rs)) h := t.1
    have x : rST s a sf (F, G, LW, BR, sl, sd, pg) h := t.2
    have eM : M = if kS B n a = 0 then .ok ((a, sf, cs, rs), (F, G, LW, BR, sl, sd, pg)) else match stS B n ((a, sf, cs, rs), (F, G, LW, BR, sl, sd, pg)) with
      | .error e => .error e
      | .ok y => txL B n f y := eM
    refine B_178_214 r.sh ⟨fun z => absurd r.z z, fun _ => c_is (x := 0) (by decide) r ⟨r.sh, ?_⟩⟩
    have ki : isM (kS B n) 0 (.ok (a, sf, cs, rs)) = if kS B n a = 0 then 1 else 0 := rfl
    rw [ki]
    by_cases k0 : kS B n a = 0
    · rw [if_pos k0] at eM ⊢
      exact ⟨fun _ => kk h g (by rw [eM]; exact t) (fun y hy => by rw [eM] at hy; cases hy; exact k0), fun z => absurd (by decide) z⟩
    · rw [if_neg k0] at eM ⊢
      refine ⟨fun z => absurd rfl z, fun _ => c_tellR r x d (fun h1 g1 t1 => ?_)⟩
      match hm : stS B n ((a, sf, cs, rs), (F, G, LW, BR, sl, sd, pg)) with
      | .error e =>
        rw [hm] at t1 eM
        have r1 : RR s 0 B n (.error e) h1 := t1
        exact ⟨r1.sh, B_178_214 r1.sh ⟨fun _ => kk h1 (g.tr g1) (by rw [eM]; exact t1) (fun y hy => by rw [eM] at hy; cases hy), fun z => absurd r1.ne.1 z⟩⟩
      | .ok y =>
        rw [hm] at t1 eM
        obtain ⟨l1, l2, l3⟩ := st_le hm
        have hf : 401 ≤ f + 1 + a := hf
        have d : sf = none → dF F := d
        exact ⟨t1.1.sh, ih y h1 (by omega) (g.tr g1) t1 (fun z => l3 z (d (l2 z))) eM⟩
end RLP

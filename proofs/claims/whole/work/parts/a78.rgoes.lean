/-! READING: changes, slips and seeds of the other side -/
def dF (F : List Fa) : Prop := ∀ f g, f < F.length → g < F.length → (faA F f).1 = (faA F g).1 → f = g
/-- the last fact of that name -/
def goF (NM : List (List Nat × Nat)) (nm : List Nat) : Nat → Nat → Option Nat → Option Nat
  | 0, _, o => o
  | r + 1, k, o => goF NM nm r (k + 1) (if (nmA NM k).1 = nm ∧ (nmA NM k).2 < 8 then some (nmA NM k).2 else o)
section RGO
variable {s o : Nat} {B : Nat → Nat} {n : Nat} {h h0 h1 h2 : XH} {m : Md} {a a' : Nat} {sf sf' : Option (Nat × Nat)} {cs rs : List Cd} {Q : Value → XH → Prop} {NM : List (List Nat × Nat)} {nm : List Nat} {F : List Fa} {G : List Pg} {LW : List Lw} {BR : List Br} {sl sd pg : Nat} {st : St}
theorem goF_eq : ∀ r k o, (∃ i, k ≤ i ∧ i < k + r ∧ (nmA NM i).1 = nm ∧ (nmA NM i).2 < 8 ∧ goF NM nm r k o = some (nmA NM i).2) ∨ ((∀ i, k ≤ i → i < k + r → ¬ ((nmA NM i).1 = nm ∧ (nmA NM i).2 < 8)) ∧ goF NM nm r k o = o) := by
  intro r
  induction r with
  | zero => intro k o; exact Or.inr ⟨fun i h1 h2 => absurd h1 (by omega), rfl⟩
  | succ r ih =>
    intro k o
    have e : goF NM nm (r + 1) k o = goF NM nm r (k + 1) (if (nmA NM k).1 = nm ∧ (nmA NM k).2 < 8 then some (nmA NM k).2 else o) := rfl
    rw [e]
    rcases ih (k + 1) (if (nmA NM k).1 = nm ∧ (nmA NM k).2 < 8 then some (nmA NM k).2 else o) with ⟨i, h1, h2, h3, h4, h5⟩ | ⟨h1, h2⟩
    · exact Or.inl ⟨i, by omega, by omega, h3, h4, h5⟩
    · by_cases q : (nmA NM k).1 = nm ∧ (nmA NM k).2 < 8
      · rw [if_pos q] at h2 ⊢
        exact Or.inl ⟨k, by omega, by omega, q.1, q.2, h2⟩
      · rw [if_neg q] at h2 ⊢
        refine Or.inr ⟨fun i h3 h4 => ?_, h2⟩
        by_cases w : i = k
        · rw [w]; exact q
        · exact h1 i (by omega) (by omega)
/-- what the last one is, by what was told -/
theorem goF_F (R : nmR F G NM) (h8 : F.length ≤ 8) : (∃ f, f < F.length ∧ (faA F f).1 = nm ∧ goF NM nm NM.length 0 none = some f) ∨ ((∀ f, f < F.length → (faA F f).1 ≠ nm) ∧ goF NM nm NM.length 0 none = none) := by
  obtain ⟨r1, r2, r3, r4⟩ := R
  rcases goF_eq (NM := NM) (nm := nm) NM.length 0 none with ⟨i, h1, h2, h3, h4, h5⟩ | ⟨h1, h2⟩
  · rcases r1 i (by omega) with ⟨f, hf, q⟩ | ⟨p, hp, q⟩
    · rw [q] at h3 h5
      exact Or.inl ⟨f, hf, h3, h5⟩
    · rw [q] at h4
      exact absurd h4 (by show ¬ 8 + p < 8; omega)
  · refine Or.inr ⟨fun f hf e => ?_, h2⟩
    obtain ⟨k, hk, q⟩ := r2 f hf
    refine h1 k (by omega) (by omega) ?_
    rw [q]
    exact ⟨e, by show f < 8; omega⟩
theorem fiF_none (q : ∀ f, f < F.length → (faA F f).1 ≠ nm) : fiF nm F F.length 0 = none := by
  cases e : fiF nm F F.length 0 with
  | none => rfl
  | some g =>
    have : (fiF nm F F.length 0).isSome = true := by rw [e]; rfl
    obtain ⟨f, h1, h2, h3⟩ := (fiF_some _ _).mp this
    exact absurd h3 (q f (by omega))
theorem fiF_nm : ∀ k f g, fiF nm F k f = some g → (faA F g).1 = nm := by
  intro k
  induction k with
  | zero => intro f g e; cases e
  | succ k ih =>
    intro f g e
    have e : (if (faA F f).1 = nm then some f else fiF nm F k (f + 1)) = some g := e
    split at e
    · cases e; assumption
    · exact ih _ _ e
theorem fiF_is {f : Nat} (hf : f < F.length) (hn : (faA F f).1 = nm) : ∃ g, fiF nm F F.length 0 = some g ∧ g < F.length ∧ (faA F g).1 = nm := by
  have : (fiF nm F F.length 0).isSome = true := (fiF_some _ _).mpr ⟨f, by omega, by omega, hn⟩
  cases e : fiF nm F F.length 0 with
  | none => rw [e] at this; cases this
  | some g =>
    have := fiF_lt _ _ _ e
    exact ⟨g, rfl, by omega, fiF_nm _ _ _ e⟩
theorem l_gof {j : Nat} (hj : j < a) (kj : kS B n j = 2) (N : nH NM h) (rr : RR s 0 B n (.ok (a, sf, cs, rs)) h) (kk : Ev 186 170 [.ref 69, .int (nI j), .int (oIx (goF NM (nS B n j) NM.length 0 none)), .null] [] h Q) :
    ∀ (r k : Nat) (o : Option Nat), k + r = NM.length → goF NM (nS B n j) NM.length 0 none = goF NM (nS B n j) r k o → Ev 186 115 [.ref 69, .int (nI j), .int (oIx o), .int (nI k)] [] h Q := by
  have l14 := N.2.1
  have hr : rch B n a := rr.2.2.2.1
  have a4 := hr.1
  intro r
  induction r with
  | zero =>
    intro k o hk e
    refine B_186_115 rr.sh ?_
    rw [N.1]
    have e : goF NM (nS B n j) NM.length 0 none = o := e
    rw [e] at kk
    exact ⟨fun _ => kk, fun z => absurd (nI_le (by omega) (by omega)) z⟩
  | succ r ih =>
    intro k o hk e
    obtain ⟨n1, n2, n3, n4⟩ := N.2.2 k (by omega)
    have t75 : xL h 75 j = oL (enc 27 (nS B n j)) := (rr.1.2.2.2.1 j (hr.lt (by omega))).2.2.1 kj
    have hi := enc27_i n2 (nS_ok kj)
    have e : goF NM (nS B n j) NM.length 0 none = goF NM (nS B n j) r (k + 1) (if (nmA NM k).1 = nS B n j ∧ (nmA NM k).2 < 8 then some (nmA NM k).2 else o) := e
    refine B_186_115 rr.sh ?_
    rw [N.1, rr.z, tn_nI (show k < 2 ^ 31 by omega), tn_nI (show j < 2 ^ 31 by omega), n1, t75, lg_cmp_eq, n3]
    have nx : ∀ o', goF NM (nS B n j) NM.length 0 none = goF NM (nS B n j) r (k + 1) o' → Ev 186 164 [.ref 69, .int (nI j), .int (oIx o'), .int (nI k)] [] h Q := by
      intro o' e'
      refine B_186_164 rr.sh ?_
      rw [nI_1]
      exact ih (k + 1) o' (by omega) e'
    refine ⟨fun z => absurd z (nI_ge (by omega) (by omega)), fun _ => ⟨fun z => absurd rfl z, fun _ => ⟨inb (by omega) (by decide), inb (by omega) (by decide), fun z => ?_, fun z => ⟨inb (by omega) (by decide), fun z2 => ?_, fun z2 => ⟨inb (by omega) (by decide), ?_⟩⟩⟩⟩⟩
    · rw [if_neg (fun q => z (hi.mpr q.1))] at e
      exact nx o e
    · have := (nI_leI (a := 8) (by decide) (by omega)).mp z2
      rw [if_neg (fun q => by omega)] at e
      exact nx o e
    · have l8 : (nmA NM k).2 < 8 := Classical.byContradiction (fun q => z2 (nI_le (a := 8) (by omega) (by omega)))
      rw [if_pos ⟨hi.mp (Classical.not_not.mp z), l8⟩] at e
      exact nx (some (nmA NM k).2) e
theorem l_goesR (x : rST s a sf (F, G, LW, BR, sl, sd, pg) h) (r : RR s 0 B n (.ok (a, sf, cs, rs)) h) (hd : sf = none → dF F) (ka : kS B n a = 103) (kk : ∀ h1, Rs s h h1 → tS s B n (lift (goS B n F pg a (.ok (a, sf, cs, rs))) (F, G, goL B n F LW BR.length (BR ++ goB B n F pg a (.ok (a, sf, cs, rs))).length a cs.length, BR ++ goB B n F pg a (.ok (a, sf, cs, rs)), sl, sd, pg)) h1 → Q .null h1) :
    ClV 190 [.ref 69] h (fun h3 => Sh h3 ∧ (ClV 191 [.ref 69, .int 1] h3 (fun h5 => Sh h5 ∧ (Ev 186 115 [.ref 69, .int (xI h3 69 11), .int (-1), .int 0] [] h5 Q)))) := by
  have s2 : s < 2 := r.1.2.1
  have rl : rs.length ≤ a := r.2.2.2.2.2.2.1
  have a4 : a ≤ 400 := r.2.2.2.1.1
  have q4 : sfP B n a sf h := r.2.2.2.2.1
  obtain ⟨⟨NM, R, N⟩, x2, x3, x4, x5, x6, x7⟩ := x
  have R : nmR F G NM := R
  have F8 : F.length ≤ 8 := x2.1
  have e3 : tkS (kS B n) (pS B n) 103 (.ok (a, sf, cs, rs)) = gnS (pS B n) (.ok (a, sf, cs, rs)) := if_pos ka
  refine c_goesOn r (fun a' sf' cs' rs' e => by cases e; exact ⟨by omega, by omega⟩) (fun h3 g3 r3 _ _ => ⟨r3.sh, c_must (x := 2) (by decide) (by decide) r3 (fun h5 g5 r5 => ⟨r5.sh, ?_⟩)⟩)
  have g35 : Gs s SE FE h h5 := g3.tr g5
  obtain ⟨b1, b2, b3⟩ := x5
  have b2 : 5 * BR.length ≤ a := b2
  have e45 : ∀ h', Gs s SE FE h h' → xI h' 69 45 = nI (130 * s + BR.length) := fun h' g => by rw [g.f (by decide)]; exact b1
  have es : goS B n F pg a (.ok (a, sf, cs, rs)) = tkS (kS B n) (pS B n) 59 (lawS (kS B n) (pS B n) (vS B n) pg (goM B n F pg a (tkS (kS B n) (pS B n) 2 (gnS (pS B n) (.ok (a, sf, cs, rs)))))) := by
    rw [← e3]; rfl
  have eb : goB B n F pg a (.ok (a, sf, cs, rs)) = lwB B n pg (goM B n F pg a (tkS (kS B n) (pS B n) 2 (gnS (pS B n) (.ok (a, sf, cs, rs))))) := by
    rw [← e3]; rfl
  have law : ∀ (m7 : Md) (x1 : Int32) (h7 : XH), goM B n F pg a (tkS (kS B n) (pS B n) 2 (gnS (pS B n) (.ok (a, sf, cs, rs)))) = m7 → Gs s SE FE h h7 → RR s 0 B n m7 h7 → (∀ c, m7 = .ok c → a + 2 = c.1) → (x1 = -1 ∨ ∃ f, f < 8 ∧ x1 = nI f) → (∀ c, m7 = .ok c → c.2.1 = none → ∃ f, f < 8 ∧ x1 = nI f ∧ fiF (nS B n (a + 1)) F F.length 0 = some f ∧ sf = none) → Ev 186 187 [.ref 69, .null, .int x1, .null] [] h7 Q := by
    intro m7 x1 h7 em g7 r7 at7 hx hn
    rw [em] at es eb
    have gz : Gs s [] [42] h7 (xsI h7 69 42 1) := Gs.rf.fld (by decide)
    have rz := r7.gx gz (by decide) (by decide)
    have Gz : Gs s SE (42 :: FE) h (xsI h7 69 42 1) := (g7.mono (by decide) (by decide)).tr (gz.mono (by decide) (by decide))
    have z45 : xI (xsI h7 69 42 1) 69 45 = nI (130 * s + BR.length) := by rw [xI_sd (by decide)]; exact e45 h7 g7
    have bq : bQ0 s BR m7 (xsI h7 69 42 1) := by
      match m7, at7 with
      | .error e, _ => exact ⟨BR.length, by omega, z45⟩
      | .ok (c1, c2, c3, c4), at7 =>
        have := at7 _ rfl
        have : a + 2 = c1 := this
        refine ⟨z45, by omega, fun i hi => ?_⟩
        have := b3 i hi
        unfold brQ at this ⊢
        rw [Gz.at (a := 98) (by decide) (by decide), Gz.at (a := 99) (by decide) (by decide), Gz.at (a := 100) (by decide) (by decide), Gz.at (a := 101) (by decide) (by decide), Gz.at (a := 102) (by decide) (by decide)]
        exact this
    refine B_186_187 r7.sh (c_lawR (pg := pg) (BR := BR) hx rz xI_ss bq (fun h9 g9 r9 t1 t2 => ⟨r9.sh, B_186_295 r9.sh ?_⟩))
    have G9 : Gs s SLw (42 :: FB) h h9 := (Gz.mono (by decide) (by decide)).tr (g9.mono (by decide) (by decide))
    have R9 : Rs s h h9 := G9.rS (by decide) (by decide)
    rw [← es] at r9 t1 t2
    refine kk h9 R9 ?_
    match hm : goS B n F pg a (.ok (a, sf, cs, rs)) with
    | .error e => rw [hm] at r9; exact r9
    | .ok co =>
      rw [hm] at r9 t2
      obtain ⟨u1, u2, u3, u4, u5⟩ := t2 co rfl
      have X9 : Rx SLw [] (42 :: FB) h h9 := G9.gx.rx
      have ml : mle 5 (.ok (a, sf, cs, rs)) (goS B n F pg a (.ok (a, sf, cs, rs))) := mle.gS
      obtain ⟨c0, ec0, cl0, cn0, _⟩ := ml co hm
      cases ec0
      have cn0 : co.2.1 = none → sf = none := cn0
      have ml7 : mle 3 m7 (goS B n F pg a (.ok (a, sf, cs, rs))) := by rw [es]; exact mle.lwS.tr mle.tk
      obtain ⟨c7, ec7, cl7, cn7, _⟩ := ml7 co hm
      refine ⟨r9, ⟨NM, R, N.rx X9 (by decide) (by decide) (by decide)⟩, x2.rx X9 (by decide), x3.rx X9 (by decide) cn0, x4.rx X9 (by decide) (by decide), ?_, fun e => ?_, x7.rx X9 (by decide)⟩
      · show bH s (BR ++ goB B n F pg a (.ok (a, sf, cs, rs))) co.1 h9
        rw [eb]
        exact ⟨u1, u2, u3⟩
      · obtain ⟨f, f8, ef, ei, en⟩ := hn c7 ec7 (cn7 e)
        obtain ⟨v1, v2⟩ := u5 f f8 ef
        have z96 : xI (xsI h7 69 42 1) 96 = xI h 96 := Gz.at (by decide) (by decide)
        have z97 : xI (xsI h7 69 42 1) 97 = xI h 97 := Gz.at (by decide) (by decide)
        show lH s (goL B n F LW BR.length (BR ++ goB B n F pg a (.ok (a, sf, cs, rs))).length a cs.length) h9
        have eg : goL B n F LW BR.length (BR ++ goB B n F pg a (.ok (a, sf, cs, rs))).length a cs.length = (f, cs.length, BR.length, (BR ++ goB B n F pg a (.ok (a, sf, cs, rs))).length) :: LW := by unfold goL; rw [ei]
        rw [eg]
        intro f' hf'
        have el : lwX s ((f, cs.length, BR.length, (BR ++ goB B n F pg a (.ok (a, sf, cs, rs))).length) :: LW) f' = if f = f' then (130 * s + BR.length, 130 * s + (BR ++ goB B n F pg a (.ok (a, sf, cs, rs))).length) else lwX s LW f' := rfl
        rw [el, v1, v2, z96, z97, eb]
        by_cases w : f = f'
        · subst w
          rw [if_pos rfl, up_same, up_same]
          exact ⟨rfl, rfl⟩
        · rw [if_neg w, up_ne (by omega), up_ne (by omega)]
          exact (x6 en) f' hf'
  match hm : tkS (kS B n) (pS B n) 2 (gnS (pS B n) (.ok (a, sf, cs, rs))) with
  | .error e =>
    rw [hm] at r5 law
    have go : Ev 186 187 [.ref 69, .null, .int (-1), .null] [] h5 Q := law (.error e) (-1) h5 rfl g35 r5 (fun c hc => by cases hc) (Or.inl rfl) (fun c hc => by cases hc)
    have g170 : Ev 186 170 [.ref 69, .int (xI h3 69 11), .int (-1), .null] [] h5 Q := B_186_170 r5.sh ⟨fun _ => go, fun z => absurd r5.ne.1 z⟩
    exact B_186_115 r5.sh ⟨fun _ => g170, fun _ => ⟨fun _ => g170, fun z => absurd r5.ne.1 z⟩⟩
  | .ok c =>
    obtain ⟨b1', sf1, cs1, rs1, q1, z1, l1, w1⟩ := tk_ok hm
    have eg : gnS (pS B n) (.ok (a, sf, cs, rs)) = if a < 400 then .ok (a + 1, sf, cs, rs) else .error (2, pS B n a) := rfl
    have a4' : a < 400 := Classical.byContradiction (fun q => by rw [eg, if_neg q] at q1; cases q1)
    rw [eg, if_pos a4'] at q1 r3
    cases q1
    subst w1
    rw [hm] at r5 law
    have e11 : xI h3 69 11 = nI (a + 1) := r3.2.2.1
    rw [e11]
    have N5 := (N.gs g3 (by decide) (by decide)).gs g5 (by decide) (by decide)
    have hr5 : rch B n (a + 2) := r5.2.2.2.1
    have p01 : pS B n a < pS B n (a + 1) := pS_m (hr5.lt (by omega)) (by omega)
    refine l_gof (a := a + 2) (by omega) z1 N5 r5 ?_ NM.length 0 none (by omega) rfl
    have eM : goM B n F pg a (.ok (a + 1 + 1, sf, cs, rs)) = match fiF (nS B n (a + 1)) F F.length 0 with
      | none => sftS (pS B n) 4 (a + 1) (.ok (a + 1 + 1, sf, cs, rs))
      | some _ => .ok (a + 1 + 1, sf, cs, rs) := rfl
    rcases goF_F (nm := nS B n (a + 1)) R F8 with ⟨f, hf, hn, ef⟩ | ⟨hn, ef⟩
    · rw [ef]
      obtain ⟨g, gi, gl, gn⟩ := fiF_is hf hn
      rw [gi] at eM
      refine B_186_170 r5.sh ⟨fun z => absurd r5.z z, fun _ => ⟨fun _ => law _ _ h5 eM g35 r5 (fun c hc => by cases hc; rfl) (Or.inr ⟨f, by omega, rfl⟩) (fun c hc e => ?_), fun z => absurd (nI_le (a := 0) (b := f) (by omega) (by omega)) z⟩⟩
      cases hc
      have e : sf = none := e
      have : f = g := hd e f g hf gl (by rw [hn, gn])
      exact ⟨f, by omega, rfl, by rw [gi, this], e⟩
    · rw [ef]
      have gi := fiF_none hn
      rw [gi] at eM
      have eM : goM B n F pg a (.ok (a + 1 + 1, sf, cs, rs)) = .ok (a + 2, sfO sf (some (4, pS B n (a + 1))), cs, rs) := eM
      refine B_186_170 r5.sh ⟨fun z => absurd r5.z z, fun _ => ⟨fun z => absurd z (by decide), fun _ => c_wrongR (x := 4) (j := a + 1) (by decide) r5 (by omega) (fun h7 g7 r7 => ⟨r7.sh, law _ _ h7 eM (g35.tr (g7.mono (by decide) (by decide))) ?_ (fun c hc => by cases hc; rfl) (Or.inl rfl) (fun c hc e => ?_)⟩)⟩⟩
      · rw [sfW_O (fun x y e => by have := q4.lt x y e; omega)] at r7
        exact r7
      · cases hc
        have e : sfO sf (some (4, pS B n (a + 1))) = none := e
        have e2 := sfO_n e
        rw [e2] at e
        cases e
end RGO

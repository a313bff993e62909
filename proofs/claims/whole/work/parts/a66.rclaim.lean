/-! READING: claims of the other side -/
section RCL
variable {s o : Nat} {B : Nat → Nat} {n : Nat} {h h0 : XH} {m : Md} {a : Nat} {sf : Option (Nat × Nat)} {cs rs : List Cd} {Q : Value → XH → Prop}
abbrev NS1 : List Nat := [1, 72, 73, 74, 94, 95, 103, 104]
abbrev NF1 : List Nat := [11, 12, 13, 14, 15, 16, 19, 39, 51]
theorem RR.gx {S F : List Nat} {h1 : XH} (r : RR s o B n m h) (g : Gs s S F h h1) (hS : ∀ x ∈ NS1, x ∉ S) (hF : ∀ x ∈ NF1, x ∉ F) : RR s o B n m h1 := by
  have rb : RBs s B n h1 := by
    obtain ⟨r1, r2, r3, r4, r5⟩ := r.1
    refine ⟨g.sh r1 (hS 1 (by decide)), r2, by rw [g.f (hF 19 (by decide))]; exact r3, fun j hj => ?_, r5⟩
    unfold rT1
    rw [g.at (hS 72 (by decide)) (by decide), g.at (hS 73 (by decide)) (by decide), g.at (hS 74 (by decide)) (by decide), g.1.2.1]
    exact r4 j hj
  match m, r with
  | .error e, r =>
    obtain ⟨e1, e2, e3, e4, e5, ⟨b, e6, e7⟩, c, e8, e9⟩ := r.2
    exact ⟨rb, e1, e2, e3, by rw [g.f (hF 13 (by decide))]; exact e4, by rw [g.f (hF 14 (by decide))]; exact e5, ⟨b, e6, by rw [g.f (hF 11 (by decide))]; exact e7⟩, ⟨c, e8, by rw [g.f (hF 51 (by decide))]; exact e9⟩⟩
  | .ok (a, sf, cs, rs), r =>
    obtain ⟨q1, q2, q3, q4, q5, q6, q7, q8, q9, q10⟩ := r.2
    refine ⟨rb, by rw [g.f (hF 13 (by decide))]; exact q1, by rw [g.f (hF 11 (by decide))]; exact q2, q3, ?_, by rw [g.f (hF 12 (by decide))]; exact q5, q6, by rw [g.f (hF 51 (by decide))]; exact q7, fun i hi => by rw [g.at (hS 103 (by decide)) (by decide), g.at (hS 104 (by decide)) (by decide)]; exact q8 i hi, by rw [g.f (hF 39 (by decide))]; exact q9, fun i hi => by rw [g.at (hS 94 (by decide)) (by decide), g.at (hS 95 (by decide)) (by decide)]; exact q10 i hi⟩
    unfold sfP
    rw [g.f (hF 15 (by decide)), g.f (hF 16 (by decide))]
    exact q4
theorem RR.pu {c : Cd} (r : RR s o B n m h) : RR s o B n (puS c m) h := by
  match m, r with
  | .error e, r => exact r
  | .ok (a, sf, cs, rs), r => exact r
theorem RR.up {c : Cd} (r : RR s o B n (puS c m) h) : RR s o B n m h := by
  match m, r with
  | .error e, r => exact r
  | .ok (a, sf, cs, rs), r => exact r
/-- a token at least has gone by, codes are fewer than tokens -/
def lt1 (m : Md) : Prop := ∀ c, m = .ok c → c.2.2.2.length + 1 ≤ c.1
theorem c_exprR {law : Bool} {pg : Nat} {K : XH → Prop} (r : RR s 0 B n m h) (e42 : xI h 69 42 = if law = true then 1 else 0) (hl : lt1 m) (k : ∀ h1, Gs s SE FE h h1 → RR s 0 B n (exS (kS B n) (pS B n) (vS B n) law pg m) h1 → lt1 (exS (kS B n) (pS B n) (vS B n) law pg m) → K h1) : ClV 196 [.ref 69] h K := by
  have g5 : Gs s [105] [55] h (xsI h 69 55 (nI 0)) := Gs.rf.fld (by decide)
  have r5 := r.wt g5
  have g6 : Gs s SE FE h (xsI h 69 55 (nI 0)) := g5.mono (by decide) (by decide)
  refine B_196_0 r.sh ?_
  match m, r, r5, k, hl with
  | .error e, r, r5, k, hl => exact B_196_12 r5.sh ⟨fun z => absurd z (by decide), fun _ => ⟨fun _ => B_196_272 r5.sh ⟨rfl, k _ g6 r5 hl⟩, fun z => absurd r5.ne.1 z⟩⟩
  | .ok (a, sf, cs, rs), r, r5, k, hl =>
    have e12 : xI (xsI h 69 55 (nI 0)) 69 12 = nI 0 := r5.2.2.2.2.2.1
    have l1 : rs.length + 1 ≤ a := hl _ rfl
    have e12' : xI (xsI h 69 55 0) 69 12 = nI 0 := e12
    rw [e12']
    refine B_196_12 r5.sh ⟨fun z => absurd z (by decide), fun _ => ⟨fun z => absurd r5.z z, fun _ => ?_⟩⟩
    exact (l_rexp (h0 := h) (law := law) (pg := pg) (M := exS (kS B n) (pS B n) (vS B n) law pg (.ok (a, sf, cs, rs))) e42 (fun h1 g1 r1 l => ⟨rfl, k h1 g1 r1 l⟩) 401).1 0 [] a sf cs rs _ g6 r5 ⟨by decide, xI_ss, trivial, fun w hw => by cases hw⟩ (Or.inl rfl) (by decide) (by show rs.length + 0 + 1 ≤ a + 0; omega) (by omega) rfl
theorem lt1.tk {x : Nat} (hl : ∀ c, m = .ok c → c.2.2.2.length ≤ c.1) : lt1 (tkS (kS B n) (pS B n) x m) := by
  intro c hc
  obtain ⟨a, sf, cs, rs, e, _, _, e2⟩ := tk_ok hc
  have := hl _ e
  subst e2
  show rs.length + 1 ≤ a + 1
  have : rs.length ≤ a := this
  omega
theorem lt1.le (h : lt1 m) : ∀ c, m = .ok c → c.2.2.2.length ≤ c.1 := fun c hc => by have := h c hc; omega
abbrev SQ : List Nat := [88, 89, 90, 91, 94, 95, 103, 104, 105]
abbrev FQ : List Nat := [11, 12, 13, 14, 15, 16, 32, 39, 51, 55]
def qR (s q : Nat) (c : Cm) (h : XH) : Prop := xI h 88 q = nI c.2.2.2.2 ∧ xI h 89 q = nI (420 * s + c.2.1) ∧ xI h 90 q = nI (420 * s + c.2.2.1) ∧ xI h 91 q = nI (420 * s + c.2.2.2.1)
theorem RR.c51 (r : RR s o B n (.ok (a, sf, cs, rs)) h) : xI h 69 51 = nI (420 * s + rs.length) := r.2.2.2.2.2.2.2.1
theorem gq {h1 : XH} (g : Gs s SE FE h h1) : Gs s SQ FQ h h1 := g.mono (by decide) (by decide)
theorem c_claimR {pg q : Nat} {K : XH → Prop} (r : RR s 0 B n m h) (e42 : xI h 69 42 = 0) (hl : lt1 m) (hq0 : 36 * s ≤ q ∧ q < 36 * s + 36) (e32 : xI h 69 32 = nI q)
    (k : ∀ h1, Gs s SQ FQ h h1 → RR s 0 B n (cmS (kS B n) (pS B n) (vS B n) pg m) h1 → lt1 (cmS (kS B n) (pS B n) (vS B n) pg m) → (∀ j, j ≠ q → xI h1 88 j = xI h 88 j ∧ xI h1 89 j = xI h 89 j ∧ xI h1 90 j = xI h 90 j ∧ xI h1 91 j = xI h 91 j) → (∀ e, cmS (kS B n) (pS B n) (vS B n) pg m = .error e → ∃ q', q ≤ q' ∧ q' ≤ q + 1 ∧ xI h1 69 32 = nI q') → (∀ c, cmS (kS B n) (pS B n) (vS B n) pg m = .ok c → xI h1 69 32 = nI (q + 1) ∧ qR s q (cmB (kS B n) (pS B n) (vS B n) pg m) h1) → K h1) : ClV 202 [.ref 69] h K := by
  have hq : q < 72 := by have : s < 2 := r.1.2.1; omega
  match m, r, hl, k with
  | .error e, r, hl, k =>
    refine B_202_0 r.sh ⟨fun z => absurd z r.ne.2.1, fun _ => ⟨rfl, k h Gs.rf r hl (fun _ _ => ⟨rfl, rfl, rfl, rfl⟩) (fun _ _ => ⟨q, Nat.le_refl _, by omega, e32⟩) (fun c hc => by cases hc)⟩⟩
  | .ok (a, sf, cs, rs), r, hl, k =>
    have l1 : rs.length + 1 ≤ a := hl _ rfl
    refine B_202_0 r.sh ⟨fun _ => ?_, fun z => absurd (by rw [r.z]; decide) z⟩
    rw [e32, tn_nI (show q < 2 ^ 31 by omega), r.c51]
    have gA : Gs s SQ FQ h (xsI h 89 q (nI (420 * s + rs.length))) := Gs.rf.set (by decide) (by decide)
    have gA' : Gs s [89] [] h (xsI h 89 q (nI (420 * s + rs.length))) := Gs.rf.set (by decide) (by decide)
    have rA : RR s 0 B n (.ok (a, sf, cs, rs)) (xsI h 89 q (nI (420 * s + rs.length))) := r.gx gA' (by decide) (by decide)
    have A89 : xI (xsI h 89 q (nI (420 * s + rs.length))) 89 = up (xI h 89) q (nI (420 * s + rs.length)) := xI_s
    have AO : ∀ c, c ≠ 89 → xI (xsI h 89 q (nI (420 * s + rs.length))) c = xI h c := fun c hc => xI_n hc
    generalize xsI h 89 q (nI (420 * s + rs.length)) = hA at gA gA' rA A89 AO ⊢
    refine ⟨inb hq (by decide), c_exprR (law := false) (pg := pg) rA (by rw [gA.f (by decide)]; exact e42) hl (fun h1 g1 r1 l1' => ?_)⟩
    have r1 : RR s 0 B n (cm1 (kS B n) (pS B n) (vS B n) pg (.ok (a, sf, cs, rs))) h1 := r1
    have l1' : lt1 (cm1 (kS B n) (pS B n) (vS B n) pg (.ok (a, sf, cs, rs))) := l1'
    have q1 : xI h1 69 32 = nI q := by rw [g1.f (by decide), gA'.f (by decide)]; exact e32
    have so1 : ∀ x, isM (kS B n) x (cm1 (kS B n) (pS B n) (vS B n) pg (.ok (a, sf, cs, rs))) = 0 ∨ isM (kS B n) x (cm1 (kS B n) (pS B n) (vS B n) pg (.ok (a, sf, cs, rs))) = 1 := by
      intro x
      unfold isM
      split
      · exact Or.inl rfl
      · split
        · exact Or.inr rfl
        · exact Or.inl rfl
    have put : ∀ (x : Int32) (so : Nat), x = nI so → (∀ c, cm1 (kS B n) (pS B n) (vS B n) pg (.ok (a, sf, cs, rs)) = .ok c → so = soM (kS B n) (pS B n) (vS B n) pg (.ok (a, sf, cs, rs))) → InB (nI q) 72 ∧ (((¬ (xI (xsI h1 88 q x) 69 13) = 0) → Ev 202 98 [.ref 69] [] (xsI h1 88 q x) (fun r h1 => r = .null ∧ K h1)) ∧ (¬ (¬ (xI (xsI h1 88 q x) 69 13) = 0) → ClI 185 [.ref 69, .int 13] (xsI h1 88 q x) (fun v8 h7 => Sh h7 ∧ (((¬ v8 = 0) → Ev 202 98 [.ref 69] [] h7 (fun r h1 => r = .null ∧ K h1)) ∧ (¬ (¬ v8 = 0) → ClI 185 [.ref 69, .int 5] h7 (fun v10 h9 => Sh h9 ∧ (((¬ v10 = 0) → Ev 202 98 [.ref 69] [] h9 (fun r h1 => r = .null ∧ K h1)) ∧ (¬ (¬ v10 = 0) → ClI 185 [.ref 69, .int 16] h9 (fun v12 h11 => Sh h11 ∧ (((¬ v12 = 0) → Ev 202 98 [.ref 69] [] h11 (fun r h1 => r = .null ∧ K h1)) ∧ (¬ (¬ v12 = 0) → ClV 187 [.ref 69, .int 1] h11 (fun h13 => Sh h13 ∧ (Ev 202 98 [.ref 69] [] h13 (fun r h1 => r = .null ∧ K h1)))))))))))))) := by
      intro x so ex eso
      subst ex
      have gB' : Gs s [88] [] h1 (xsI h1 88 q (nI so)) := Gs.rf.set (by decide) (by decide)
      have gB : Gs s SQ FQ h (xsI h1 88 q (nI so)) := (gA.tr (gq g1)).tr (gB'.mono (by decide) (by decide))
      have rB := r1.gx gB' (by decide) (by decide)
      have B88 : xI (xsI h1 88 q (nI so)) 88 = up (xI h 88) q (nI so) := by rw [xI_s, g1.at (by decide) (by decide), AO 88 (by decide)]
      have B89 : xI (xsI h1 88 q (nI so)) 89 = up (xI h 89) q (nI (420 * s + rs.length)) := by rw [xI_n (by decide), g1.at (by decide) (by decide), A89]
      have B90 : xI (xsI h1 88 q (nI so)) 90 = xI h 90 := by rw [xI_n (by decide), g1.at (by decide) (by decide), AO 90 (by decide)]
      have B91 : xI (xsI h1 88 q (nI so)) 91 = xI h 91 := by rw [xI_n (by decide), g1.at (by decide) (by decide), AO 91 (by decide)]
      have B32 : xI (xsI h1 88 q (nI so)) 69 32 = nI q := by rw [xI_n (by decide)]; exact q1
      generalize xsI h1 88 q (nI so) = hB at gB rB B88 B89 B90 B91 B32 ⊢
      have e42B : xI hB 69 42 = 0 := by rw [gB.f (by decide)]; exact e42
      have stop : ∀ e, cmS (kS B n) (pS B n) (vS B n) pg (.ok (a, sf, cs, rs)) = .error e → ∀ hC, Gs s SE FE hB hC → RR s 0 B n (.error e) hC → xI hC 69 32 = nI q → K hC := by
        intro e ee hC gC rC eC
        refine k hC (gB.tr (gq gC)) (by rw [ee]; exact rC) (by rw [ee]; exact fun c hc => by cases hc) (fun j hj => ?_) (fun e' _ => ⟨q, Nat.le_refl _, by omega, eC⟩) (fun c hc => by rw [ee] at hc; cases hc)
        rw [gC.at (a := 88) (by decide) (by decide), gC.at (a := 89) (by decide) (by decide), gC.at (a := 90) (by decide) (by decide), gC.at (a := 91) (by decide) (by decide), B88, B89, B90, B91, up_ne hj, up_ne hj]
        exact ⟨rfl, rfl, rfl, rfl⟩
      match hm : cm1 (kS B n) (pS B n) (vS B n) pg (.ok (a, sf, cs, rs)) with
      | .error e =>
        rw [hm] at rB
        have ee : cmS (kS B n) (pS B n) (vS B n) pg (.ok (a, sf, cs, rs)) = .error e := by unfold cmS cm3 cm2; rw [hm]; rfl
        refine ⟨inb hq (by decide), fun _ => B_202_98 rB.sh ⟨fun z => absurd z rB.ne.2.1, fun _ => ⟨rfl, stop e ee hB Gs.rf rB B32⟩⟩, fun z => absurd rB.ne.1 z⟩
      | .ok (a1, sf1, cs1, rs1) =>
        rw [hm] at rB l1' eso
        have eso := eso _ rfl
        have lB : rs1.length + 1 ≤ a1 := l1' _ rfl
        have ki : ∀ x, isM (kS B n) x (.ok (a1, sf1, cs1, rs1)) = if kS B n a1 = x then 1 else 0 := fun x => rfl
        have e2m : cm2 (kS B n) (pS B n) (vS B n) pg (.ok (a, sf, cs, rs)) = if kS B n a1 = 60 ∨ kS B n a1 = 61 ∨ kS B n a1 = 62 then tkS (kS B n) (pS B n) (kS B n a1) (.ok (a1, sf1, cs1, rs1)) else .error (1, pS B n a1) := by unfold cm2; rw [hm]; rfl
        have go : (kS B n a1 = 60 ∨ kS B n a1 = 61 ∨ kS B n a1 = 62) → Ev 202 98 [.ref 69] [] hB (fun r h1 => r = .null ∧ K h1) := by
          intro hk
          rw [if_pos hk] at e2m
          have et : tkS (kS B n) (pS B n) (kS B n a1) (.ok (a1, sf1, cs1, rs1)) = gnS (pS B n) (.ok (a1, sf1, cs1, rs1)) := by
            show (if kS B n a1 = kS B n a1 then _ else _) = _
            rw [if_pos rfl]
            rfl
          refine B_202_98 rB.sh ⟨fun _ => c_goesOn rB (fun a' sf' cs' rs' e => by cases e; omega) (fun h2 g2 r2 _ _ => ?_), fun z => absurd (by rw [rB.z]; decide) z⟩
          rw [← et, ← e2m] at r2
          have l2 : lt1 (cm2 (kS B n) (pS B n) (vS B n) pg (.ok (a, sf, cs, rs))) := by rw [e2m]; exact lt1.tk (fun c hc => by cases hc; show rs1.length ≤ a1; omega)
          have q2 : xI h2 69 32 = nI q := by rw [g2.f (by decide)]; exact B32
          rw [q2, tn_nI (show q < 2 ^ 31 by omega)]
          have c51 : ∃ c, xI h2 69 51 = nI (420 * s + c) ∧ ∀ co, cm2 (kS B n) (pS B n) (vS B n) pg (.ok (a, sf, cs, rs)) = .ok co → c = rlM (cm2 (kS B n) (pS B n) (vS B n) pg (.ok (a, sf, cs, rs))) := by
            match hx : cm2 (kS B n) (pS B n) (vS B n) pg (.ok (a, sf, cs, rs)) with
            | .error e => rw [hx] at r2; obtain ⟨e1, e2, e3, e4, e5, e6, c, e8, e9⟩ := r2.2; exact ⟨c, e9, fun co hco => by cases hco⟩
            | .ok (a2, sf2, cs2, rs2) => rw [hx] at r2; exact ⟨rs2.length, r2.c51, fun co _ => rfl⟩
          obtain ⟨c, ec, ecr⟩ := c51
          rw [ec]
          have gC' : Gs s [90] [] h2 (xsI h2 90 q (nI (420 * s + c))) := Gs.rf.set (by decide) (by decide)
          have rC := r2.gx gC' (by decide) (by decide)
          have gC : Gs s SQ FQ h (xsI h2 90 q (nI (420 * s + c))) := (gB.tr (gq g2)).tr (gC'.mono (by decide) (by decide))
          have C88 : xI (xsI h2 90 q (nI (420 * s + c))) 88 = up (xI h 88) q (nI so) := by rw [xI_n (by decide), g2.at (by decide) (by decide), B88]
          have C89 : xI (xsI h2 90 q (nI (420 * s + c))) 89 = up (xI h 89) q (nI (420 * s + rs.length)) := by rw [xI_n (by decide), g2.at (by decide) (by decide), B89]
          have C90 : xI (xsI h2 90 q (nI (420 * s + c))) 90 = up (xI h 90) q (nI (420 * s + c)) := by rw [xI_s, g2.at (by decide) (by decide), B90]
          have C91 : xI (xsI h2 90 q (nI (420 * s + c))) 91 = xI h 91 := by rw [xI_n (by decide), g2.at (by decide) (by decide), B91]
          have C32 : xI (xsI h2 90 q (nI (420 * s + c))) 69 32 = nI q := by rw [xI_n (by decide)]; exact q2
          generalize xsI h2 90 q (nI (420 * s + c)) = hC at gC rC C88 C89 C90 C91 C32 ⊢
          have last : ∀ hD, Gs s SE FE hC hD → RR s 0 B n (cm3 (kS B n) (pS B n) (vS B n) pg (.ok (a, sf, cs, rs))) hD → lt1 (cm3 (kS B n) (pS B n) (vS B n) pg (.ok (a, sf, cs, rs))) → Ev 202 134 [.ref 69] [] hD (fun r h1 => r = .null ∧ K h1) := by
            intro hD gD rD lD
            have q3 : xI hD 69 32 = nI q := by rw [gD.f (by decide)]; exact C32
            have c51 : ∃ c, xI hD 69 51 = nI (420 * s + c) ∧ ∀ co, cm3 (kS B n) (pS B n) (vS B n) pg (.ok (a, sf, cs, rs)) = .ok co → c = rlM (cm3 (kS B n) (pS B n) (vS B n) pg (.ok (a, sf, cs, rs))) := by
              match hx : cm3 (kS B n) (pS B n) (vS B n) pg (.ok (a, sf, cs, rs)) with
              | .error e => rw [hx] at rD; obtain ⟨e1, e2, e3, e4, e5, e6, c, e8, e9⟩ := rD.2; exact ⟨c, e9, fun co hco => by cases hco⟩
              | .ok (a2, sf2, cs2, rs2) => rw [hx] at rD; exact ⟨rs2.length, rD.c51, fun co _ => rfl⟩
            obtain ⟨d, ed, edr⟩ := c51
            have i32 : xI (xsI hD 91 q (nI (420 * s + d))) 69 32 = nI q := by rw [xI_n (by decide)]; exact q3
            refine B_202_134 rD.sh ?_
            rw [q3, tn_nI (show q < 2 ^ 31 by omega), ed, i32, nI_1]
            refine ⟨inb hq (by decide), rfl, ?_⟩
            have gE' : Gs s [91] [32] hD (xsI (xsI hD 91 q (nI (420 * s + d))) 69 32 (nI (q + 1))) := (Gs.rf.set (by decide) (by decide)).fld (by decide)
            have rE := rD.gx gE' (by decide) (by decide)
            have E88 : xI (xsI (xsI hD 91 q (nI (420 * s + d))) 69 32 (nI (q + 1))) 88 = up (xI h 88) q (nI so) := by rw [xI_n (by decide), xI_n (by decide), gD.at (by decide) (by decide), C88]
            have E89 : xI (xsI (xsI hD 91 q (nI (420 * s + d))) 69 32 (nI (q + 1))) 89 = up (xI h 89) q (nI (420 * s + rs.length)) := by rw [xI_n (by decide), xI_n (by decide), gD.at (by decide) (by decide), C89]
            have E90 : xI (xsI (xsI hD 91 q (nI (420 * s + d))) 69 32 (nI (q + 1))) 90 = up (xI h 90) q (nI (420 * s + c)) := by rw [xI_n (by decide), xI_n (by decide), gD.at (by decide) (by decide), C90]
            have E91 : xI (xsI (xsI hD 91 q (nI (420 * s + d))) 69 32 (nI (q + 1))) 91 = up (xI h 91) q (nI (420 * s + d)) := by rw [xI_n (by decide), xI_s, gD.at (by decide) (by decide), C91]
            have E32 : xI (xsI (xsI hD 91 q (nI (420 * s + d))) 69 32 (nI (q + 1))) 69 32 = nI (q + 1) := xI_ss
            generalize xsI (xsI hD 91 q (nI (420 * s + d))) 69 32 (nI (q + 1)) = hE at gE' rE E88 E89 E90 E91 E32 ⊢
            refine k hE ((gC.tr (gq gD)).tr (gE'.mono (by decide) (by decide))) (rE.pu.pu) ?_ (fun j hj => ?_) (fun e _ => ⟨q + 1, by omega, Nat.le_refl _, E32⟩) (fun co hco => ⟨E32, ?_⟩)
            · intro co hco
              unfold cmS at hco
              match hx : cm3 (kS B n) (pS B n) (vS B n) pg (.ok (a, sf, cs, rs)), lD with
              | .error e, lD => rw [hx] at hco; cases hco
              | .ok (a2, sf2, cs2, rs2), lD =>
                rw [hx] at hco
                cases hco
                exact (lD (a2, sf2, cs2, rs2) rfl : rs2.length + 1 ≤ a2)
            · rw [E88, E89, E90, E91, up_ne hj, up_ne hj, up_ne hj, up_ne hj]
              exact ⟨rfl, rfl, rfl, rfl⟩
            · have o3 : ∃ co3, cm3 (kS B n) (pS B n) (vS B n) pg (.ok (a, sf, cs, rs)) = .ok co3 := by
                match hx : cm3 (kS B n) (pS B n) (vS B n) pg (.ok (a, sf, cs, rs)) with
                | .error e => unfold cmS at hco; rw [hx] at hco; cases hco
                | .ok co3 => exact ⟨co3, rfl⟩
              obtain ⟨co3, h3⟩ := o3
              have o2 : ∃ co2, cm2 (kS B n) (pS B n) (vS B n) pg (.ok (a, sf, cs, rs)) = .ok co2 := by
                match hx : cm2 (kS B n) (pS B n) (vS B n) pg (.ok (a, sf, cs, rs)) with
                | .error e => unfold cm3 at h3; rw [hx] at h3; cases h3
                | .ok co2 => exact ⟨co2, rfl⟩
              obtain ⟨co2, h2'⟩ := o2
              unfold qR
              rw [E88, E89, E90, E91, up_same, up_same, up_same, up_same, ecr co2 h2', edr co3 h3, eso]
              exact ⟨rfl, rfl, rfl, rfl⟩
          refine ⟨r2.sh, inb hq (by decide), fun z => ?_, fun z => ?_⟩
          · refine last hC Gs.rf ?_ ?_
            · match hx : cm2 (kS B n) (pS B n) (vS B n) pg (.ok (a, sf, cs, rs)) with
              | .error e => rw [hx] at rC; have : cm3 (kS B n) (pS B n) (vS B n) pg (.ok (a, sf, cs, rs)) = .error e := by unfold cm3; rw [hx]; rfl
                            rw [this]; exact rC
              | .ok (a2, sf2, cs2, rs2) => rw [hx] at rC; exact absurd rC.z z
            · match hx : cm2 (kS B n) (pS B n) (vS B n) pg (.ok (a, sf, cs, rs)) with
              | .error e => have : cm3 (kS B n) (pS B n) (vS B n) pg (.ok (a, sf, cs, rs)) = .error e := by unfold cm3; rw [hx]; rfl
                            rw [this]; exact fun c hc => by cases hc
              | .ok (a2, sf2, cs2, rs2) => rw [hx] at rC; exact absurd rC.z z
          · exact c_exprR (law := false) (pg := pg) rC (by rw [gC.f (by decide)]; exact e42) l2 (fun hD gD rD lD => ⟨rD.sh, last hD gD rD lD⟩)
        refine ⟨inb hq (by decide), fun z => absurd rB.z z, fun _ => c_is (x := 60) (by decide) rB ⟨rB.sh, fun z => go ?_, fun z60 => c_is (x := 61) (by decide) rB ⟨rB.sh, fun z => go ?_, fun z61 => c_is (x := 62) (by decide) rB ⟨rB.sh, fun z => go ?_, fun z62 => ?_⟩⟩⟩⟩
        · rw [ki] at z; have : kS B n a1 = 60 := Classical.byContradiction (fun q => z (by rw [if_neg q]; rfl)); omega
        · rw [ki] at z; have : kS B n a1 = 61 := Classical.byContradiction (fun q => z (by rw [if_neg q]; rfl)); omega
        · rw [ki] at z; have : kS B n a1 = 62 := Classical.byContradiction (fun q => z (by rw [if_neg q]; rfl)); omega
        · rw [ki] at z60 z61 z62
          have n60 : kS B n a1 ≠ 60 := fun q => by rw [if_pos q] at z60; exact z60 (by decide)
          have n61 : kS B n a1 ≠ 61 := fun q => by rw [if_pos q] at z61; exact z61 (by decide)
          have n62 : kS B n a1 ≠ 62 := fun q => by rw [if_pos q] at z62; exact z62 (by decide)
          rw [if_neg (by omega)] at e2m
          have ee : cmS (kS B n) (pS B n) (vS B n) pg (.ok (a, sf, cs, rs)) = .error (1, pS B n a1) := by unfold cmS cm3; rw [e2m]; rfl
          refine c_fail (x := 1) (by decide) rB (fun c hc => by cases hc; show rs1.length ≤ 402; have := rB.2.2.2.1.1; omega) (fun hC gC rC _ _ => ⟨rC.sh, ?_⟩)
          have rC : RR s 0 B n (.error (1, pS B n a1)) hC := rC
          exact B_202_98 rC.sh ⟨fun z => absurd z rC.ne.2.1, fun _ => ⟨rfl, stop _ ee hC gC rC (by rw [gC.f (by decide)]; exact B32)⟩⟩
    have soE : ∀ c, cm1 (kS B n) (pS B n) (vS B n) pg (.ok (a, sf, cs, rs)) = .ok c → soM (kS B n) (pS B n) (vS B n) pg (.ok (a, sf, cs, rs)) = if kS B n c.1 = 60 then 0 else if kS B n c.1 = 61 then 1 else 2 := by
      intro c hc
      unfold soM
      rw [hc]
      rfl
    rw [q1, tn_nI (show q < 2 ^ 31 by omega)]
    refine ⟨r1.sh, c_is (x := 60) (by decide) r1 ⟨r1.sh, fun z60 => c_is (x := 61) (by decide) r1 ⟨r1.sh, fun z61 => ?_, fun z61 => ?_⟩, fun z60 => ?_⟩⟩
    · refine put 2 2 rfl (fun c hc => ?_)
      rw [hc] at z60 z61
      have n60 : kS B n c.1 ≠ 60 := fun q => by have : isM (kS B n) 60 (.ok c) = 1 := if_pos q; rw [this] at z60; exact absurd z60 (by decide)
      have n61 : kS B n c.1 ≠ 61 := fun q => by have : isM (kS B n) 61 (.ok c) = 1 := if_pos q; rw [this] at z61; exact absurd z61 (by decide)
      rw [soE c hc, if_neg n60, if_neg n61]
    · refine put 1 1 rfl (fun c hc => ?_)
      rw [hc] at z60 z61
      have n60 : kS B n c.1 ≠ 60 := fun q => by have : isM (kS B n) 60 (.ok c) = 1 := if_pos q; rw [this] at z60; exact absurd z60 (by decide)
      have k61 : kS B n c.1 = 61 := Classical.byContradiction (fun q => by have : isM (kS B n) 61 (.ok c) = 0 := if_neg q; rw [this] at z61; exact z61 rfl)
      rw [soE c hc, if_neg n60, if_pos k61]
    · refine put 0 0 rfl (fun c hc => ?_)
      rw [hc] at z60
      have k60 : kS B n c.1 = 60 := Classical.byContradiction (fun q => by have : isM (kS B n) 60 (.ok c) = 0 := if_neg q; rw [this] at z60; exact z60 rfl)
      rw [soE c hc, if_pos k60]
end RCL

/-! READING: pages of the other side -/
theorem rkd_sh : ∀ x, x < 116 → okK x = true → ((23 ≤ rkd x ∧ rkd x ≤ 25) ↔ (x = 105 ∨ x = 106 ∨ x = 107)) ∧ ((x = 105 ∨ x = 106 ∨ x = 107) → rkd x = shO x + 23 ∧ shO x ≤ 2) := by decide +kernel
def cQ (s q : Nat) (cls : List Cm) (h : XH) : Prop := xI h 69 32 = nI (q + cls.length) ∧ ∀ c, c < cls.length → qR s (q + c) (cmA cls c) h
def cK (q : Nat) (h h1 : XH) : Prop := ∀ j, j < q → xI h1 88 j = xI h 88 j ∧ xI h1 89 j = xI h 89 j ∧ xI h1 90 j = xI h 90 j ∧ xI h1 91 j = xI h 91 j
section RPG
variable {s o : Nat} {B : Nat → Nat} {n : Nat} {h h0 h1 h2 : XH} {m : Md} {a a' : Nat} {sf sf' : Option (Nat × Nat)} {cs rs : List Cd} {Q : Value → XH → Prop} {NM : List (List Nat × Nat)} {nm : List Nat} {F : List Fa} {G : List Pg} {LW : List Lw} {BR : List Br} {sl sd pg : Nat} {st : St}
theorem cK.tr {q : Nat} (p : cK q h h1) (p' : cK q h1 h2) : cK q h h2 := fun j hj => by
  obtain ⟨a1, a2, a3, a4⟩ := p j hj
  obtain ⟨b1, b2, b3, b4⟩ := p' j hj
  exact ⟨b1.trans a1, b2.trans a2, b3.trans a3, b4.trans a4⟩
theorem cK.gs {q : Nat} {S F' : List Nat} (g : Gs s S F' h h1) (hS : ∀ c ∈ [88, 89, 90, 91], c ∉ S) : cK q h h1 := fun j _ => by
  rw [g.at (a := 88) (hS 88 (by decide)) (by decide), g.at (a := 89) (hS 89 (by decide)) (by decide), g.at (a := 90) (hS 90 (by decide)) (by decide), g.at (a := 91) (hS 91 (by decide)) (by decide)]
  exact ⟨rfl, rfl, rfl, rfl⟩
theorem cQ.gs {q : Nat} {cls : List Cm} {S F' : List Nat} (x : cQ s q cls h) (g : Gs s S F' h h1) (hS : ∀ c ∈ [88, 89, 90, 91], c ∉ S) (hF : 32 ∉ F') : cQ s q cls h1 := by
  unfold cQ qR
  rw [g.at (a := 88) (hS 88 (by decide)) (by decide), g.at (a := 89) (hS 89 (by decide)) (by decide), g.at (a := 90) (hS 90 (by decide)) (by decide), g.at (a := 91) (hS 91 (by decide)) (by decide), g.f hF]
  exact x
/-- further claims -/
theorem l_moreR {g q i : Nat} {x2 : Int32} {M : Md × List Cm} (hq : 36 * s ≤ q ∧ q + 6 ≤ 36 * s + 36) (hi : i < 12) (e42 : xI h0 69 42 = 0) (e86 : xI h0 86 i = nI q)
    (kk : ∀ h1, Gs s SQ FQ h0 h1 → RR s 0 B n M.1 h1 → cK q h0 h1 → (∀ c, M.1 = .ok c → cQ s q M.2 h1 ∧ M.2.length ≤ 6) → Ev 201 162 [.ref 69, .int (nI i), .int x2] [] h1 Q)
    (kE : ∀ e h1, Gs s SQ FQ h0 h1 → RR s 0 B n (.error e) h1 → M.1 = .error e → Q .null h1) :
    ∀ (f : Nat) (m : Md) (cls : List Cm) (h : XH), Gs s SQ FQ h0 h → RR s 0 B n m h → lt1 m → cls.length + f = 7 → cls.length ≤ 6 → (∀ c, m = .ok c → cQ s q cls h) → cK q h0 h → M = cmL (kS B n) (pS B n) (vS B n) g f m cls → Ev 201 106 [.ref 69, .int (nI i), .int x2] [] h Q := by
  intro f
  induction f with
  | zero => intro m cls h _ _ _ hc hc'; omega
  | succ f ih =>
    intro m cls h gg r l hc hc6 cq ck eM
    match m, r, l, cq, eM with
    | .error e, r, l, cq, eM =>
      have eM : M = (.error e, cls) := eM
      exact B_201_106 r.sh ⟨fun _ => kk h gg (by rw [eM]; exact r) ck (fun c hc => by rw [eM] at hc; cases hc), fun z => absurd r.ne.1 z⟩
    | .ok (a, sf, cs, rs), r, l, cq, eM =>
      have eM : M = if kS B n a = 108 then (if cls.length < 6 then cmL (kS B n) (pS B n) (vS B n) g f (cmS (kS B n) (pS B n) (vS B n) g (tkS (kS B n) (pS B n) 108 (.ok (a, sf, cs, rs)))) (cls ++ [cmB (kS B n) (pS B n) (vS B n) g (tkS (kS B n) (pS B n) 108 (.ok (a, sf, cs, rs)))]) else (.error (2, pS B n a), cls)) else (.ok (a, sf, cs, rs), cls) := eM
      have l1 : rs.length + 1 ≤ a := l _ rfl
      have a4 : a ≤ 400 := r.2.2.2.1.1
      have cq := cq _ rfl
      have h86 : xI h 86 i = nI q := by rw [gg.at (by decide) (by decide)]; exact e86
      have s2 : s < 2 := r.1.2.1
      refine B_201_106 r.sh ⟨fun z => absurd r.z z, fun _ => c_is (x := 108) (by decide) r ⟨r.sh, ?_⟩⟩
      have ki : isM (kS B n) 108 (.ok (a, sf, cs, rs)) = if kS B n a = 108 then 1 else 0 := rfl
      rw [ki]
      by_cases k1 : kS B n a = 108
      · rw [if_pos k1] at eM ⊢
        rw [cq.1, tn_nI (show i < 2 ^ 31 by omega), h86]
        have es : nI (q + cls.length) - nI q = nI cls.length := by rw [pk_sub (by omega), Nat.add_sub_cancel_left]
        rw [es]
        refine ⟨fun z => absurd z (by decide), fun _ => ⟨inb hi (by decide), fun z => ?_, fun z => ?_⟩⟩
        · have c5 : cls.length < 6 := by
            have : cls.length ≠ 6 := fun e => z (by rw [e]; rfl)
            omega
          rw [if_pos c5] at eM
          have eg : tkS (kS B n) (pS B n) 108 (.ok (a, sf, cs, rs)) = gnS (pS B n) (.ok (a, sf, cs, rs)) := if_pos k1
          refine B_201_143 r.sh ⟨fun _ => c_goesOn r (fun a' sf' cs' rs' e => by cases e; exact ⟨by omega, by omega⟩) (fun h1 g1 r1 _ _ => ⟨r1.sh, ?_⟩), fun y => absurd (by rw [r.z]; decide) y⟩
          rw [← eg] at r1
          refine c_claimR (pg := g) (q := q + cls.length) r1 (by rw [g1.f (by decide), gg.f (by decide)]; exact e42) (lt1.tk (fun c hc => by cases hc; show rs.length ≤ a; omega)) (by omega) (by rw [g1.f (by decide)]; exact cq.1) (fun h3 g3 r3 l3 t1 t2 t3 => ⟨r3.sh, ih _ _ h3 ((gg.tr (gq g1)).tr g3) r3 l3 (by rw [ap1]; omega) (by rw [ap1]; omega) (fun c hc => ?_) ?_ eM⟩)
          · obtain ⟨u1, u2⟩ := t3 c hc
            refine ⟨by rw [ap1]; exact u1, fun c' hc' => ?_⟩
            rw [ap1] at hc'
            by_cases w : c' = cls.length
            · subst w
              rw [cmA_r]
              exact u2
            · rw [cmA_l (by omega)]
              have := (cq.gs g1 (by decide) (by decide)).2 c' (by omega)
              obtain ⟨y1, y2, y3, y4⟩ := t1 (q + c') (by omega)
              unfold qR at this ⊢
              rw [y1, y2, y3, y4]
              exact this
          · exact (ck.tr (cK.gs g1 (by decide))).tr (fun j hj => t1 j (by omega))
        · have c6 : cls.length = 6 := (nI_eq (b := 6) (by omega) (by decide)).mp (Classical.not_not.mp z)
          rw [if_neg (by omega)] at eM
          refine c_fail (x := 2) (by decide) r (fun c hc => by cases hc; show rs.length ≤ 402; omega) (fun h3 g3 r3 _ _ => ⟨r3.sh, ?_⟩)
          have r3 : RR s 0 B n (.error (2, pS B n a)) h3 := r3
          exact B_201_143 r3.sh ⟨fun y => absurd y r3.ne.2.1, fun _ => kE _ h3 (gg.tr (gq g3)) r3 (by rw [eM])⟩
      · rw [if_neg k1] at eM ⊢
        exact ⟨fun _ => kk h gg (by rw [eM]; exact r) ck (fun c _ => by rw [eM]; exact ⟨cq, hc6⟩), fun z => absurd rfl z⟩
theorem l_p162e {e : Nat × Nat} {i : Nat} {x2 : Int32} (hi : 6 * s ≤ i ∧ i < 6 * s + 6) (r : RR s 0 B n (.error e) h) (kk : ∀ h1, Rs s h h1 → RR s 0 B n (.error e) h1 → Q .null h1) : Ev 201 162 [.ref 69, .int (nI i), .int x2] [] h Q := by
  have s2 : s < 2 := r.1.2.1
  refine B_201_162 r.sh (c_must (x := 59) (by decide) (by decide) r (fun h1 g1 r1 => ⟨r1.sh, inb (by omega) (by decide), ?_⟩))
  have r1 : RR s 0 B n (.error e) h1 := r1
  rw [tn_nI (show i < 2 ^ 31 by omega)]
  have gA : ∀ v : Int32, Gs s [87] [] h1 (xsI h1 87 i v) := fun v => Gs.rf.set (by decide) (by decide)
  have rA : ∀ v : Int32, RR s 0 B n (.error e) (xsI h1 87 i v) := fun v => r1.gx (gA v) (by decide) (by decide)
  exact ⟨fun z => absurd z (rA _).ne.2.1, fun _ => kk _ ((gsE g1).tr ((gA _).rS (by decide) (by decide))) (rA _)⟩
theorem qn_l {x : Pg} : ∀ p, p ≤ G.length → qn (G ++ [x]) p = qn G p := by
  intro p
  induction p with
  | zero => intro _; rfl
  | succ p ih =>
    intro hp
    show qn (G ++ [x]) p + (pgA (G ++ [x]) p).2.2.length = qn G p + (pgA G p).2.2.length
    rw [ih (by omega), pgA_l (by omega)]
theorem qn_le (hg : ∀ p, p < G.length → (pgA G p).2.2.length ≤ 6) : ∀ p, p ≤ G.length → qn G p ≤ 6 * p := by
  intro p
  induction p with
  | zero => intro _; exact Nat.le_refl _
  | succ p ih =>
    intro hp
    have h1 := ih (by omega)
    have h2 := hg p (by omega)
    show qn G p + (pgA G p).2.2.length ≤ 6 * (p + 1)
    omega
theorem qn_mo : ∀ d p, qn G p ≤ qn G (p + d) := by
  intro d
  induction d with
  | zero => intro p; exact Nat.le_refl _
  | succ d ih =>
    intro p
    have := ih p
    show qn G p ≤ qn G (p + d) + (pgA G (p + d)).2.2.length
    omega
/-- the end of a page -/
theorem l_p162 {x : Pg} {j : Nat} {m : Md} {co : Co} (r : RR s 0 B n m h) (em : tkS (kS B n) (pS B n) 59 m = .ok co) (hG : G.length < 6) (R : nmR F G NM) (N : nH NM h) (f1 : fH s F h) (w1 : wH s F co.2.1 h) (b1 : bH s BR co.1 h) (l1 : co.2.1 = none → lH s LW h) (o1 : oH s sl sd h) (hj : rch B n j) (kj : kS B n j = 2) (ej : nS B n j = x.1)
    (g84 : xI h 84 s = nI G.length) (g85 : xI h 85 (6 * s + G.length) = nI x.2.1) (g86 : xI h 86 (6 * s + G.length) = nI (36 * s + qn G G.length)) (gq : cQ s (36 * s + qn G G.length) x.2.2 h) (g6 : x.2.2.length ≤ 6) (go : ∀ p, p < G.length → (pgA G p).2.2.length ≤ 6 ∧ xI h 85 (6 * s + p) = nI (pgA G p).2.1 ∧ xI h 86 (6 * s + p) = nI (36 * s + qn G p) ∧ xI h 87 (6 * s + p) = nI (36 * s + qn G (p + 1)) ∧ ∀ c, c < (pgA G p).2.2.length → qR s (36 * s + qn G p + c) (cmA (pgA G p).2.2 c) h)
    (kk : ∀ h1, Rs s h h1 → RR s 0 B n (.ok co) h1 → rST s co.1 co.2.1 (F, G ++ [x], LW, BR, sl, sd, pg) h1 → Q .null h1) : Ev 201 162 [.ref 69, .int (nI (6 * s + G.length)), .int (nI j)] [] h Q := by
  have s2 : s < 2 := r.1.2.1
  have j4 := hj.1
  have F8 := f1.1
  have N4 := R.2.2.2
  refine B_201_162 r.sh (c_must (x := 59) (by decide) (by decide) r (fun h1 g1 r1 => ⟨r1.sh, ?_⟩))
  rw [em] at r1
  have gq1 := gq.gs g1 (by decide) (by decide)
  rw [tn_nI (show 6 * s + G.length < 2 ^ 31 by omega), gq1.1]
  have gA : Gs s [87] [] h1 (xsI h1 87 (6 * s + G.length) (nI (36 * s + qn G G.length + x.2.2.length))) := Gs.rf.set (by decide) (by decide)
  have A87 : xI (xsI h1 87 (6 * s + G.length) (nI (36 * s + qn G G.length + x.2.2.length))) 87 = up (xI h1 87) (6 * s + G.length) (nI (36 * s + qn G G.length + x.2.2.length)) := xI_s
  generalize xsI h1 87 (6 * s + G.length) (nI (36 * s + qn G G.length + x.2.2.length)) = hA at gA A87 ⊢
  have rA := r1.gx gA (by decide) (by decide)
  have A19 : xI hA 69 19 = nI s := rA.1.2.2.1
  have A84 : xI hA 84 s = nI G.length := by rw [gA.at (by decide) (by decide), g1.at (by decide) (by decide)]; exact g84
  obtain ⟨c1, c2, c3, c4⟩ := co
  rw [A19, tn_nI (show s < 2 ^ 31 by omega), A84, show (8 : Int32) + nI G.length = nI (8 + G.length) by rw [show (8 : Int32) = nI 8 from rfl, nI_add]]
  have xA : Rx (87 :: SE) [] FE h hA := ((g1.gx.rx (L := [])).mono (by decide) (by decide) (by decide)).tr ((gA.gx.rx (L := [])).mono (by decide) (by decide) (by decide))
  refine ⟨inb (by omega) (by decide), fun _ => ⟨inb s2 (by decide), c_notes (s := s) rA.sh (N.rx xA (by decide) (by decide) (by decide)) (by omega) rA.1.2.2.2.1 hj kj (by omega) (fun hB gB oB NB => ?_)⟩, fun z => absurd (by rw [rA.z]; decide) z⟩
  have rB := rA.rx gB (by decide) (by decide) (by decide)
  have B19 : xI hB 69 19 = nI s := rB.1.2.2.1
  have B84 : xI hB 84 s = nI G.length := by rw [gB.at (by decide) (by decide)]; exact A84
  rw [B19, tn_nI (show s < 2 ^ 31 by omega), B84, nI_1]
  have gC : Gs s [84] [] hB (xsI hB 84 s (nI (G.length + 1))) := Gs.rf.set (by decide) (by decide)
  have C84 : xI (xsI hB 84 s (nI (G.length + 1))) 84 s = nI (G.length + 1) := xI_ss
  generalize xsI hB 84 s (nI (G.length + 1)) = hC at gC C84 ⊢
  have rC := rB.gx gC (by decide) (by decide)
  have xC : Rx [84] [] [] hB hC := gC.gx.rx
  have X : Rx (78 :: 84 :: 87 :: SE) [77] (20 :: FE) h hC := ((xA.mono (by decide) (by decide) (by decide)).tr (gB.mono (by decide) (by decide) (by decide))).tr (xC.mono (by decide) (by decide) (by decide))
  refine ⟨rB.sh, inb s2 (by decide), inb s2 (by decide), kk hC (X.rS (((g1.2.2.tr gA.2.2).tr oB).tr gC.2.2) (by decide) (by decide) (by decide)) rC ⟨⟨NM ++ [(x.1, 8 + G.length)], R.page, ?_⟩, f1.rx X (by decide), w1.rx X (by decide) id, ?_, b1.rx X (by decide) (by decide) (Nat.le_refl _), fun e => (l1 e).rx X (by decide), o1.rx X (by decide)⟩⟩
  · rw [ej] at NB
    exact NB.rx xC (by decide) (by decide) (by decide)
  · have c87 : xI hC 87 = up (xI h 87) (6 * s + G.length) (nI (36 * s + qn G G.length + x.2.2.length)) := by rw [gC.at (by decide) (by decide), gB.at (by decide) (by decide), A87, g1.at (by decide) (by decide)]
    have c32 : xI hC 69 32 = nI (36 * s + qn G G.length + x.2.2.length) := by rw [X.f (by decide)]; exact gq.1
    have eq1 : qn (G ++ [x]) (G.length + 1) = qn G G.length + x.2.2.length := by
      show qn (G ++ [x]) G.length + (pgA (G ++ [x]) G.length).2.2.length = _
      rw [qn_l _ (Nat.le_refl _), pgA_r]
    unfold gH qR
    show (G ++ [x]).length ≤ 6 ∧ _
    rw [ap1, C84, c32, c87, X.at (a := 85) (by decide) (by decide), X.at (a := 86) (by decide) (by decide), X.at (a := 88) (by decide) (by decide), X.at (a := 89) (by decide) (by decide), X.at (a := 90) (by decide) (by decide), X.at (a := 91) (by decide) (by decide)]
    refine ⟨by omega, rfl, by rw [show qn (F, G ++ [x], LW, BR, sl, sd, pg).2.1 (G.length + 1) = qn G G.length + x.2.2.length from eq1, Nat.add_assoc], fun p hp => ?_⟩
    by_cases q : p = G.length
    · subst q
      rw [show pgA (F, G ++ [x], LW, BR, sl, sd, pg).2.1 G.length = x from pgA_r, show qn (F, G ++ [x], LW, BR, sl, sd, pg).2.1 G.length = qn G G.length from qn_l _ (Nat.le_refl _), show qn (F, G ++ [x], LW, BR, sl, sd, pg).2.1 (G.length + 1) = qn G G.length + x.2.2.length from eq1, up_same]
      exact ⟨g6, g85, g86, by rw [Nat.add_assoc], fun c hc => gq.2 c hc⟩
    · have hp' : p < G.length := by omega
      rw [show pgA (F, G ++ [x], LW, BR, sl, sd, pg).2.1 p = pgA G p from pgA_l hp', show qn (F, G ++ [x], LW, BR, sl, sd, pg).2.1 p = qn G p from qn_l _ (by omega), show qn (F, G ++ [x], LW, BR, sl, sd, pg).2.1 (p + 1) = qn G (p + 1) from qn_l _ (by omega), up_ne (by omega)]
      exact go p hp'
end RPG
